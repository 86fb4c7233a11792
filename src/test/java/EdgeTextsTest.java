/** What Terms say of THE TAPE, TOKENS, FAULTS and of what a text tells, at its edges. */
public final class EdgeTextsTest {
    private static final Check check = new Check();
    private static final String REST = ";earns 1;may 1;";

    private static void due(String call, long got, long want) {
        check.due(call, got, want);
    }

    public static void main(String[] args) {
        theRule();
        tapeFull();
        tapeEmpties();
        textsFull();
        anyByteAhead();
        anyByteBehind();
        anyByteWithin();
        blanks();
        numbers();
        words();
        noOtherWords();
        tooEarly();
        firstFault();
        openFive();
        openTillTheEnd();
        wraps();
        truths();
        chains();
        fullOfSigns();
        deepest();
        bounds();
        names();
        namesOfEarns();
        yes();
        check.end("EdgeTextsTest");
    }

    private static int read(String text) {
        return Check.text(new NotBothInAugust(), text);
    }

    /** The fault is where the first argument ends. */
    private static void dueFault(String ahead, String rest) {
        due(ahead + "|" + rest, read(ahead + rest), -100 - ahead.length());
    }

    private static void dueText(String text) {
        due(text, read(text), 1);
    }

    // One who wishes for all weeks, of number 7, away for two weeks, with 13 points.
    private static NotBothInAugust by(String text) {
        NotBothInAugust x = new NotBothInAugust();
        x.clerk(0, 7, 2);
        x.set(5, 0, 255);
        x.set(6, 0, 13);
        due(text, Check.rule(x, text), 1);
        return x;
    }

    private static void dueJoys(String e, int want) {
        due("joys " + e, by("joys " + e + REST).told(0, 22), want);
    }

    private static void dueEarns(String e, int want) {
        due("earns " + e, by("joys 1;earns " + e + ";may 1;").told(0, 10), want);
    }

    private static void dueMay(String e, int want) {
        due("may " + e, by("joys 1;earns 1;may " + e + ";").told(0, 32), want);
    }

    // ---- "TEXT 0, at first THE RULE, is: joys 10 ; earns 3 ; may 1 ;"

    private static void theRule() {
        check.part("TEXT 0");
        NotBothInAugust x = new NotBothInAugust();
        x.clerk(0, 7, 2);
        x.set(5, 0, 255);
        x.set(6, 0, 13);
        due("the rule", x.count(6), 0);
        for (int week = 0; week < 8; week++) {
            due("joys", x.told(0, 20 + week), 10);
            due("may", x.told(0, 30 + week), 1);
        }
        due("earns", x.told(0, 10), 3);
    }

    // ---- "THE TAPE (160 bytes at most)"

    private static String padded(String ahead, int size, String end) {
        return ahead + " ".repeat(size - ahead.length() - end.length()) + end;
    }

    private static void tapeFull() {
        check.part("THE TAPE, 160 bytes");
        for (int size = 158; size <= 162; size++) {
            NotBothInAugust x = new NotBothInAugust();
            String text = padded("joys 1;earns 1;may 1", size, ";");
            for (int i = 0; i < size; i++) {
                due("byte " + i, x.feed(text.charAt(i)), i < 160 ? i + 1 : -4);
            }
            due("bytes", x.count(5), Math.min(size, 160));
            due("text of " + size, x.text(), size <= 160 ? 1 : -260);
            due("empty then", x.count(5), 0);
            due("room again", x.feed(0), 1);
        }
        due("one number of 155", read(padded("joys " + "1".repeat(155), 160, "")), -105);
        due("one word of 160", read("a".repeat(160)), -100);
        // 161 bytes, of which the last has no room; 159 and 160, all read
        due("71 TERMS", read("joys 1" + "+1".repeat(70) + REST), -260);
        dueText("joys 1" + "+1".repeat(69) + REST);
        dueText("joys 10" + "-1".repeat(69) + REST);
        due("blanks to the end", read(" ".repeat(160)), -260);
        due("a fault at the last byte", read(padded("joys 1;earns 1;may 1;", 160, "$")), -259);
    }

    // ---- "THE TAPE, which is empty then (by a FAULT, too)"

    private static void tapeEmpties() {
        check.part("THE TAPE is empty then");
        NotBothInAugust x = new NotBothInAugust();
        due("nothing", x.text(), -100);
        due("a fault", Check.text(x, "joys"), -104);
        due("empty", x.count(5), 0);
        due("no text more", x.count(4), 1);
        due("anew", x.feed('j'), 1);
        due("its fault", x.text(), -100);
        due("a text", Check.text(x, "joys 1;earns 1;may 1;"), 1);
        due("empty", x.count(5), 0);
        due("not read again", x.text(), -100);
        due("texts", x.count(4), 2);
        due("the rule stays", x.count(6), 0);
        due("another rule", x.force(1), 0);
        due("a fault", Check.text(x, "joys 1;earns 1;may"), -118);
        due("the other rule stays", x.count(6), 1);
        due("a text more", Check.text(x, "joys 2;earns 2;may 2;"), 2);
        due("the other rule stays", x.count(6), 1);
        // nothing of a text that has a fault is left over for the next, nor is it still open
        String[] faults = {"joys (((((1", "joys -----", "joys not not not not not", "joys 5 + 6", "joys 5;earns 6;may 7",
            "joys 5;earns 6;may 7;8"};
        for (String fault : faults) {
            NotBothInAugust y = Check.shop(0);
            y.set(5, 0, 255);
            due(fault, Check.text(y, fault) < 0 ? 1 : 0, 1);
            due("five again", Check.rule(y, "joys (((((1)))));earns not not not not not 0;may -----1+1;"), 1);
            due("joys", y.told(0, 20), 1);
            due("earns", y.told(0, 10), 1);
            due("may", y.told(0, 30), 0);
        }
    }

    // ---- "There are 6 TEXTS at most, TEXT 0 with them"; "FULL (ahead of all)"

    private static void textsFull() {
        check.part("6 TEXTS");
        NotBothInAugust x = Check.shop(0);
        x.set(5, 0, 1);
        for (int text = 1; text <= 5; text++) {
            due("a fault takes no room", Check.text(x, "joys 9;earns 8;may"), -118);
            due("text", Check.text(x, "joys " + text + ";earns " + text + ";may " + text % 2 + ";"), text);
            due("texts", x.count(4), text + 1);
        }
        due("full of nothing", x.text(), -4);
        due("fed", x.feed('$'), 1);
        due("full ahead of a fault", x.text(), -4);
        due("the tape stays", x.count(5), 1);
        due("full again", x.text(), -4);
        due("the tape goes on", x.feed('$'), 2);
        due("texts", x.count(4), 6);
        due("no seventh", x.force(6), -2);
        for (int text = 5; text >= 0; text--) {
            x.force(text);
            due("joys of " + text, x.told(0, 20), text == 0 ? 10 : text);
            due("earns of " + text, x.told(0, 10), text == 0 ? 3 : text);
            due("may of " + text, x.told(0, 30), text == 0 ? 1 : text % 2);
        }
    }

    // ---- TOKENS: each byte there is, ahead of a number, behind one, and within a word

    private static void anyByteAhead() {
        check.part("a byte ahead of a number");
        for (int b = 0; b < 256; b++) {
            boolean isRead = b == ' ' || b == '\n' || b == '-' || b >= '0' && b <= '9';
            int want = isRead ? 1 : b == '(' ? -107 : -105;
            due("byte " + b, read("joys " + (char) b + "1" + REST), want);
        }
    }

    private static void anyByteBehind() {
        check.part("a byte behind a number");
        for (int b = 0; b < 256; b++) {
            boolean isRead = b == ' ' || b == '\n' || b >= '0' && b <= '9';
            boolean isAwaiting = b == ';' || b == '+' || b == '-' || b == '*' || b == '<' || b == '=';
            due("byte " + b, read("joys 1" + (char) b + REST), isRead ? 1 : isAwaiting ? -107 : -106);
        }
    }

    private static void anyByteWithin() {
        check.part("a byte beside a word");
        for (int b = 0; b < 256; b++) {
            boolean isBlank = b == ' ' || b == '\n';
            boolean isLetter = b >= 'a' && b <= 'z';
            boolean isDigit = b >= '0' && b <= '9';
            boolean isAwaiting = b == ';' || b == '+' || b == '-' || b == '*' || b == '<' || b == '=';
            due("byte within " + b, read("joys we" + (char) b + "ek" + REST), -105);
            int behind = isBlank ? 1 : isAwaiting ? -110 : isLetter ? -105 : -109;
            due("byte behind " + b, read("joys week" + (char) b + REST), behind);
            int ahead = isBlank || b == '-' ? 1 : b == '(' ? -110 : isDigit ? -106 : -105;
            due("byte ahead " + b, read("joys " + (char) b + "week" + REST), ahead);
        }
    }

    // ---- "blanks (32, 10) may stand between"

    private static void blanks() {
        check.part("blanks");
        dueText("joys1;earns1;may1;");
        dueText(" \n joys \n 1 \n ; \n earns \n 1 \n ; \n may \n 1 \n ; \n ");
        dueText("joys(1)or(1);earns not(1);may(1)and(1);");
        dueText("joys 1or 1and 1;earns 1<1;may not-1;");
        dueFault("joys 1", "$2" + REST);
        dueFault("joys 1 ", "2" + REST);
        dueFault("", "joysweek" + REST);
        dueFault("joys ", "notweek" + REST);
        dueFault("joys ", "wee k" + REST);
        dueFault("", "jo ys 1" + REST);
        for (int blank : new int[] {9, 11, 12, 13, 31, 33, 0, 160, 127}) {
            dueFault("joys 1", (char) blank + REST);
        }
    }

    // ---- NUMBERS: "as many digits as stand there, 4 at most"; a FAULT is at "a NUMBER that is too long"

    private static void numbers() {
        check.part("NUMBERS");
        for (String n : new String[] {"0", "9", "00", "99", "000", "0000", "9999", "0010"}) {
            dueMay(n + " = " + Integer.parseInt(n), 1);
        }
        for (String n : new String[] {"00000", "10000", "99999", "123456", "4294967297", "0000000001"}) {
            dueFault("joys ", n + REST);
            dueFault("joys 1 + ", n + REST);
            dueFault("joys 1;earns ", n + ";may 1;");
            // also where no number can stand
            dueFault("joys 1 ", n + REST);
        }
        dueMay("9999 = 10*1000 - 1", 1);
        dueFault("joys 9999", "w" + REST);
        dueFault("joys 1234 ", "5" + REST);
    }

    // ---- "a WORD that is neither KEY nor NAME"

    private static void words() {
        check.part("WORDS");
        String[] names = {"week", "wished", "number", "length", "points", "away"};
        for (String name : names) {
            dueText("joys " + name + ";earns " + name + ";may " + name + ";");
            dueFault("joys ", name + "s" + REST);
            dueFault("joys ", "a" + name + REST);
            dueFault("joys ", name.substring(1) + REST);
            dueFault("joys ", name.substring(0, name.length() - 1) + REST);
            dueFault("joys ", name + name + REST);
            dueFault("joys ", (char) (name.charAt(0) - 32) + name.substring(1) + REST);
            dueFault("", name + " 1" + REST);
            dueFault("joys 1 ", name + REST);
            for (int i = 0; i < name.length(); i++) {
                dueFault("joys ", name.substring(0, i) + "q" + name.substring(i + 1) + REST);
            }
        }
        String[] keys = {"joys", "earns", "may"};
        for (int k = 0; k < 3; k++) {
            String[] wrong = {keys[k] + "s", "a" + keys[k], keys[k].substring(1), keys[(k + 1) % 3], keys[(k + 2) % 3],
                "or", "and", "not", "week", "x"};
            String[] ahead = {"", "joys 1;", "joys 1;earns 1;"};
            for (String w : wrong) {
                dueFault(ahead[k], w + " 1;");
            }
            dueFault("joys ", keys[k] + " 1" + REST);
            dueFault("joys 1 ", keys[k] + " 1" + REST);
            dueFault("joys 1 + ", keys[k] + " 1" + REST);
        }
        dueFault("joys 1 ", "not 1" + REST);
        dueFault("joys 1 and ", "and 1" + REST);
        for (String key : new String[] {"or", "and"}) {
            dueFault("joys ", key + REST);
            dueFault("joys ", key + " 1" + REST);
            dueFault("joys not ", key + " 1" + REST);
            dueFault("joys 1 + ", key + " 1" + REST);
            dueFault("joys (1 " + key + " ", ")" + REST);
            dueFault("joys 1 " + key + " ", REST);
            dueFault("joys 1 " + key + " 1", ")" + REST);
        }
        for (String w : new String[] {"ors", "ands", "nots", "o", "an", "no", "nor", "xor", "oor", "aand", "nnot"}) {
            dueFault("joys 1 ", w + " 1" + REST);
            dueFault("joys ", w + " 1" + REST);
        }
    }

    // "NAMES are week wished number length points away; joys, earns, may, or, and, not are KEYS": no other is either
    private static void noOtherWords() {
        check.part("no other WORDS");
        for (char a = 'a'; a <= 'z'; a++) {
            dueNoName("" + a);
            for (char b = 'a'; b <= 'z'; b++) {
                dueNoName("" + a + b);
                for (char c = 'a'; c <= 'z'; c++) {
                    dueNoName("" + a + b + c);
                }
            }
        }
        String[] words = {"year", "needed", "people", "kind", "clerk", "parent", "single", "bride", "boss", "apprentice",
            "wish", "wishes", "wishing", "point", "block", "key", "keys", "apart", "none", "glad", "earn", "joy", "wants",
            "weeks", "rule", "text", "plan", "holds", "best", "turn", "true", "false", "then", "else", "booked", "others"};
        for (String word : words) {
            dueNoName(word);
        }
    }

    private static void dueNoName(String word) {
        boolean isNot = word.equals("not");
        due("joys " + word, read("joys " + word), isNot ? -108 : -105);
    }

    // ---- "the text's size, if it ends too early"

    private static void tooEarly() {
        check.part("it ends too early");
        String whole = "joys not (1 + -week) < 2 or 1 and 3;earns points;may 1;";
        dueText(whole);
        dueText(whole + "\n ");
        String[] tokens = {"joys", " not", " (", "1", " +", " -", "week", ")", " <", " 2", " or", " 1", " and", " 3", ";",
            "earns", " points", ";", "may", " 1", ";"};
        StringBuilder ahead = new StringBuilder();
        for (String token : tokens) {
            dueFault(ahead.toString(), "");
            dueFault(ahead + " ", "");
            dueFault(ahead + "\n\n  ", "");
            ahead.append(token);
        }
        due("all of it", ahead.toString().equals(whole) ? 1 : 0, 1);
    }

    // ---- the first TOKEN that can't stand there, though worse comes behind it

    private static void firstFault() {
        check.part("the first FAULT");
        dueFault("joys 1 ", "2 $");
        dueFault("joys ", ") 12345 $");
        dueFault("joys ", "$ )");
        dueFault("joys ", "12345 $ weekz");
        dueFault("joys ", "weekz 12345");
        dueFault("joys 1;", "; $");
        dueFault("joys 1;earns 1;may 1;", "joys 1" + REST);
        dueFault("joys 1;earns 1;may 1; ", ";");
        dueFault("joys 1;earns 1;may 1;\n", "1");
        dueFault("joys 1;earns 1;may 1;", "$");
        dueFault("joys 1;earns 1;may 1;", "12345");
        dueFault("joys 1;earns 1;may 1;", "zzz");
        dueFault("joys 1;earns 1;may 1 ", "1;");
        dueFault("joys (((((", "( $");
        dueFault("joys 1 < 1 ", "< 1 < 1;");
        dueFault("joys 1 = 1 ", "< 1" + REST);
        dueFault("joys (1 < 1) < 1 ", "= 1" + REST);
        dueText("joys (1 < 1) = (1 < 1)" + REST);
        dueText("joys not 1 < 1 and not 1 = 1 or not 1" + REST);
        dueFault("joys 1 + ", "not 1" + REST);
        dueFault("joys 1 * ", "not 1" + REST);
        dueFault("joys - ", "not 1" + REST);
        dueFault("joys 1 = ", "not 1" + REST);
        dueText("joys - (not 1)" + REST);
        dueFault("joys (", ")" + REST);
        dueFault("joys (1 ", "1)" + REST);
        dueFault("joys (1", REST);
        dueFault("joys ", REST);
        dueFault("joys 1", ")" + REST);
    }

    // ---- "while 5 of these are open": every mix of ( and not and -, as far as they can stand

    private static void openFive() {
        check.part("5 are open");
        String[] signs = {"(", "not ", "-"};
        for (int mix = 0; mix < 729; mix++) {
            StringBuilder ahead = new StringBuilder("joys ");
            int closes = 0;
            int last = mix;
            boolean stands = true;
            String sixth = "";
            for (int i = 0; i < 6; i++) {
                int sign = last % 3;
                int before = i == 0 ? 0 : mix / (int) Math.pow(3, i - 1) % 3;
                last /= 3;
                stands &= sign != 1 || before != 2;
                if (i < 5) {
                    ahead.append(signs[sign]);
                    closes += sign == 0 ? 1 : 0;
                } else {
                    sixth = signs[sign];
                }
            }
            if (stands) {
                dueText(ahead + "1" + ")".repeat(closes) + REST);
                dueFault(ahead.toString(), sixth + "1" + ")".repeat(closes + 1) + REST);
            }
        }
    }

    // ---- "(a ( till its ) , not and - till what they belong to ends)"

    private static void openTillTheEnd() {
        check.part("what is open ends");
        String[] five = {"(((((1)))))", "-----1", "not not not not not 1", "not (not (-1))", "-(-(-1))", "-----week",
            "not not not not not 1 = 1", "(not -(not 1))"};
        for (String a : five) {
            for (String b : five) {
                for (String sign : new String[] {" or ", " and "}) {
                    dueText("joys " + a + sign + b + REST);
                    dueText("joys " + a + ";earns " + b + ";may " + b + sign + a + ";");
                }
            }
        }
        for (String a : new String[] {"(((((1)))))", "-----1", "-(-(-1))"}) {
            for (String sign : new String[] {" + ", " - ", "*", "<", "="}) {
                dueText("joys " + a + sign + a + REST);
                dueText("joys " + a + sign + "week" + REST);
            }
        }
        // a sum's - between two TERMS is none of these; a not lasts till its comparison ends
        dueText("joys (((((1 - 1 - 1)))))" + REST);
        dueText("joys -----1 - 1" + REST);
        dueText("joys not not not not not 1 - 1 < 1 - 1" + REST);
        dueFault("joys not not not not not 1 - ", "-1" + REST);
        dueFault("joys not not not not not 1 < ", "-1" + REST);
        dueFault("joys not not not not not 1 * ", "(1)" + REST);
        dueText("joys not not not not not 1 and -1" + REST);
        dueText("joys not not not (-1) and -----1" + REST);
        dueFault("joys not not not not (", "-1) and -1" + REST);
        dueText("joys not not not not -1 < -1" + REST);
        dueFault("joys not not not not -", "(1) < -1" + REST);
        dueText("joys ((((-1 * -1 + -1))))" + REST);
        dueText("joys ((((not 1 and not 1 or (1)))))" + REST);
        dueFault("joys ((((not ", "(1)))))" + REST);
        dueText("joys (((((1) + -1))))" + REST);
        dueFault("joys (((((1 + ", "-1)))))" + REST);
        dueFault("joys (((((1)))))", ")" + REST);
    }

    // ---- "An E is an int (32 bits, wrapping)"

    private static final String MIN = "8192*8192*32";

    private static void wraps() {
        check.part("an int that wraps");
        dueMay(MIN + " < 0", 1);
        dueMay(MIN + " - 1 < 0", 0);
        dueMay("0 < " + MIN + " - 1", 1);
        dueMay(MIN + " < " + MIN + " - 1", 1);
        dueMay(MIN + " - 1 < " + MIN, 0);
        dueMay("-(" + MIN + ") = " + MIN, 1);
        dueMay("0 - " + MIN + " = " + MIN, 1);
        dueMay(MIN + " + " + MIN + " = 0", 1);
        dueMay(MIN + " + " + MIN, 0);
        dueMay("8192*8192*64", 0);
        dueMay("8192*8192*64 = 0", 1);
        dueMay("8192*8192*64 + 1", 1);
        dueMay("not 8192*8192*64", 1);
        dueMay("8192*8192*64 or 0", 0);
        dueMay("8192*8192*64 and 1", 0);
        dueMay("not " + MIN, 0);
        dueMay(MIN + " and " + MIN, 1);
        dueMay(MIN + " or 0", 1);
        dueMay(MIN, 1);
        dueMay(MIN + "*-1 = " + MIN, 1);
        dueMay("(" + MIN + " - 1) + 1 = " + MIN, 1);
        dueMay("9999*9999*9999 < 0", 9999 * 9999 * 9999 < 0 ? 1 : 0);
        dueMay("9999*9999*22 < 0", 1);
        dueMay("9999*9999*21 < 0", 0);
        dueJoys(MIN, -99);
        dueJoys(MIN + " - 1", 99);
        dueJoys("8192*8192*64 + 7", 7);
        dueJoys("8192*8192*64 - 7", -7);
        dueJoys("-(" + MIN + ")", -99);
        dueEarns(MIN, 0);
        dueEarns(MIN + " - 1", 99);
        dueEarns("8192*8192*64 + 7", 7);
    }

    // ---- "of or, and, not, <, = 1 or 0 (what is not 0 is true)"

    private static void truths() {
        check.part("1 or 0");
        int[] some = {-2, -1, 0, 1, 2};
        for (int a : some) {
            dueJoys("not " + a, a == 0 ? 1 : 0);
            dueMay("" + a, a == 0 ? 0 : 1);
            for (int b : some) {
                dueJoys(a + " or " + b, a != 0 || b != 0 ? 1 : 0);
                dueJoys(a + " and " + b, a != 0 && b != 0 ? 1 : 0);
                dueJoys(a + " < " + b, a < b ? 1 : 0);
                dueJoys(a + " = " + b, a == b ? 1 : 0);
                dueJoys(a + " + " + b, a + b);
                dueJoys(a + " - " + b, a - b);
                dueJoys(a + " * " + b, a * b);
            }
        }
        dueJoys("1 or 0 and 0", 1);
        dueJoys("0 and 0 or 1", 1);
        dueJoys("not 0 or 1", 1);
        dueJoys("not 1 and 0", 0);
        dueJoys("not (1 and 0)", 1);
        dueJoys("not 2 = 3", 1);
        dueJoys("1 - 2 - 3", -4);
        dueJoys("1 - 2 + 3", 2);
        dueJoys("2 * 3 - 4 * 5", -14);
        dueJoys("1 - 1 < 1", 1);
        dueJoys("1 < 1 + 1", 1);
        dueJoys("- 2 - 3", -5);
        dueJoys("- 2 * 3 * - 1", 6);
        dueJoys("- - - 2", -2);
        dueJoys("7", 7);
        dueJoys("(7)", 7);
    }

    // ---- "E: AND { or AND }. AND: NOT { and NOT }"; "SUM: TERM { + or - TERM }. TERM: ONE { * ONE }": one, some, many

    private static void chains() {
        check.part("chains");
        for (int n = 1; n <= 30; n++) {
            for (int at : new int[] {0, n / 2, n - 1}) {
                dueMay(chain("0", "or", n, at, "0"), 0);
                dueMay(chain("0", "or", n, at, "3"), 1);
                dueJoys(chain("0", "or", n, at, "3"), n == 1 ? 3 : 1);
            }
        }
        for (int n = 1; n <= 25; n++) {
            for (int at : new int[] {0, n / 2, n - 1}) {
                dueMay(chain("2", "and", n, at, "2"), 1);
                dueMay(chain("2", "and", n, at, "0"), 0);
                dueJoys(chain("2", "and", n, at, "2"), n == 1 ? 2 : 1);
            }
        }
        for (int n = 1; n <= 60; n++) {
            for (int at : new int[] {0, n / 2, n - 1}) {
                dueJoys(chain("1", "+", n, at, "7"), n + 6);
                dueEarns(chain("1", "+", n, at, "7"), n + 6);
                dueJoys(chain("1", "-", n, at, "7"), at == 0 ? 8 - n : -n - 4);
                dueJoys(chain("1", "*", n, at, "7"), 7);
                dueEarns(chain("1", "*", n, at, "7"), 7);
            }
        }
        // each by turns, or within and, sum within sum
        dueJoys("0 or 1 and 0 or 0 and 1 or 1 and 1 and 0 or 0", 0);
        dueJoys("0 or 1 and 0 or 0 and 1 or 1 and 1 and 1 or 0", 1);
        dueJoys("1 and (0 or 0 or 1) and not 0 and (1 or 0 or 0)", 1);
        dueJoys("1 and (0 or 0 or 1) and not 0 and (0 or 0 or 0)", 0);
        dueJoys("1 + 2 - 3 + 4 * 2 * 3 - 5 - 6 + 7", 20);
        dueJoys("2 * (1 + 1 + 1) * 2 - (1 - 1 - 1) * 3 * 2", 18);
        dueFault("joys 1 or 1 or 1 ", "1" + REST);
        dueFault("joys 1 and 1 and 1 ", "1" + REST);
        dueFault("joys 1 or 1 or 1 or ", REST);
        dueFault("joys 1 and 1 and 1 and ", "or 1" + REST);
        dueFault("joys 1 + 1 - 1 + ", REST);
        dueFault("joys 1 * 1 * 1 * ", REST);
    }

    // n of them, one of which is another
    private static String chain(String one, String sign, int n, int at, String another) {
        StringBuilder e = new StringBuilder();
        for (int i = 0; i < n; i++) {
            e.append(i == 0 ? "" : sign).append(i == at ? another : one);
        }
        return e.toString();
    }

    // a tape that is full of numbers and signs alone, in each of the three
    private static void fullOfSigns() {
        check.part("160 bytes of signs");
        String joys = "joys" + chain("1", "+", 71, 0, "9") + ";earns1;may1;";
        due("bytes", joys.length(), 158);
        NotBothInAugust x = by(joys);
        due("79 of joys", x.told(0, 22), 79);
        due("1 of earns", x.told(0, 10), 1);
        due("1 of may", x.told(0, 32), 1);
        String earns = "joys2;earns" + chain("1", "+", 71, 70, "9") + ";may1;";
        due("2 of joys", by(earns).told(0, 22), 2);
        due("79 of earns", by(earns).told(0, 10), 79);
        due("1 of may", by(earns).told(0, 32), 1);
        String may = "joys2;earns3;may" + chain("1", "-", 71, 0, "70") + ";";
        due("2 of joys", by(may).told(0, 22), 2);
        due("3 of earns", by(may).told(0, 10), 3);
        due("0 of may", by(may).told(0, 32), 0);
        due("-1 of may", by(may.replace("70", "69")).told(0, 32), 1);
        due("one more", by(may.replace("70-1", "70")).told(0, 32), 1);
    }

    // in each of five ( all that can wait for what is behind does: or, and, <, + and *
    private static void deepest() {
        check.part("all that can wait");
        String waits = "0or1and0<0+1*";
        String e = (waits + "(").repeat(5) + waits + "week" + ")))))";
        NotBothInAugust may = by("joys1;earns1;may " + e + ";");
        NotBothInAugust joys = by("joys " + e + ";earns1;may1;");
        for (int week = 0; week < 8; week++) {
            due("may " + week, may.told(0, 30 + week), week == 0 ? 0 : 1);
            due("joys " + week, joys.told(0, 20 + week), week == 0 ? 0 : 1);
        }
        String sums = "1+2*";
        dueJoys((sums + "(").repeat(5) + sums + "week" + ")))))", 99);
        dueJoys((sums + "(").repeat(2) + sums + "week" + "))", 7 + 8 * 2);
        dueJoys(("9-" + "(").repeat(5) + "9-week" + ")))))", 2);
        dueJoys(("9-" + "(").repeat(4) + "9-week" + "))))", 7);
        dueEarns(("9-" + "(").repeat(5) + "9-length" + ")))))", 2);
    }

    // ---- "joys (-99 .. 99, else the bound), earns (0 .. 99, else the bound)"

    private static void bounds() {
        check.part("the bounds");
        for (int v : new int[] {-9999, -200, -101, -100, -99, -98, -1, 0, 1, 98, 99, 100, 101, 200, 9999}) {
            dueJoys("" + v, Math.max(-99, Math.min(99, v)));
            dueEarns("" + v, Math.max(0, Math.min(99, v)));
        }
        // a kind makes its own of what is bounded: twice 99, half of 99, 2 more than 99
        NotBothInAugust x = Check.shop(1, 2, 5);
        x.set(5, 0, 255);
        due("text", Check.rule(x, "joys 400;earns 400;may 1;"), 1);
        due("twice the bound", x.told(0, 23), 198);
        due("half of the bound", x.told(1, 20), 49);
        due("2 more than the bound", x.told(1, 10), 101);
        due("half of the bound", x.told(2, 10), 49);
        due("text", Check.rule(x, "joys -400;earns -400;may 1;"), 2);
        due("twice the bound", x.told(0, 23), -198);
        due("half of the bound", x.told(1, 20), -49);
        due("2 more than the bound", x.told(1, 10), 2);
        due("half of the bound", x.told(2, 10), 0);
    }

    // ---- NAMES of one in a WEEK: the least and the most of each

    private static void names() {
        check.part("NAMES");
        NotBothInAugust x = Check.shop(0, 0, 0, 0);
        String[] names = {"week", "wished", "number", "length", "away"};
        for (String name : names) {
            Check.text(x, "joys 3+2*" + name + REST);
        }
        x.set(5, 0, 0b10000001);
        x.force(1);
        due("week 0", x.told(0, 20), 3);
        due("week 7", x.told(0, 27), 17);
        x.force(2);
        due("wished 1", x.told(0, 20), 5);
        due("wished 0", x.told(0, 21), 3 / 2);
        due("wished 1", x.told(0, 27), 5);
        x.force(3);
        for (int number = 0; number <= 9; number++) {
            x.set(3, 0, number);
            due("number", x.told(0, 20), 3 + 2 * number);
        }
        x.force(4);
        for (int length = 1; length <= 4; length++) {
            x.set(4, 0, length);
            due("length", x.told(0, 20), 3 + 2 * length);
        }
        x.force(5);
        for (int others = 0; others <= 3; others++) {
            due("away, of the wished", x.told(0, 20), 3 + 2 * others);
            due("away, of week 7", x.told(0, 27), 3 + 2 * others);
            due("none in week 3", x.told(0, 23), 1);
            if (others < 3) {
                x.set(5, others + 1, 0b10000001);
            }
        }
        due("one oneself is no other", x.told(3, 20), 9);
        x.set(5, 3, 0);
        due("though one does not wish", x.told(3, 20), 9 / 2);
        points();
    }

    private static void points() {
        NotBothInAugust x = Check.shop(0);
        x.set(5, 0, 255);
        Check.rule(x, "joys points - 950;earns points - 950;may points;");
        for (int points : new int[] {0, 1, 949, 950, 951, 998, 999}) {
            x.set(6, 0, points);
            due("points of joys", x.told(0, 20), Math.max(-99, points - 950));
            due("points of earns", x.told(0, 10), Math.max(0, points - 950));
            due("points of may", x.told(0, 30), points > 0 ? 1 : 0);
        }
    }

    // ---- "(of earns week, wished, away 0)"

    private static void namesOfEarns() {
        check.part("NAMES of earns");
        NotBothInAugust x = Check.shop(0, 0);
        x.set(3, 0, 9);
        x.set(4, 0, 4);
        x.set(6, 0, 50);
        x.set(5, 0, 255);
        x.set(5, 1, 255);
        x.book(0, 4);
        String[] names = {"week", "wished", "away", "number", "length", "points"};
        int[] want = {1, 1, 1, 10, 5, 51};
        for (int i = 0; i < names.length; i++) {
            Check.text(x, "joys 1;earns 1+" + names[i] + ";may 1;");
            due("text", x.force(x.count(4) - 1) >= 0 ? 1 : 0, 1);
            // a week that is asked ahead leaves nothing behind
            x.told(0, 27);
            if (i < 5) {
                due("earns by " + names[i], x.told(0, 10), want[i]);
            }
        }
        NotBothInAugust y = Check.shop(0);
        y.set(6, 0, 50);
        Check.rule(y, "joys 1;earns 1+points;may 1;");
        due("earns by points", y.told(0, 10), want[5]);
    }

    // ---- "may telling yes, if it isn't 0"

    private static void yes() {
        check.part("may");
        for (String e : new String[] {"1", "-1", "2", "9999", "-9999", MIN, "0 - 1", "week - 9"}) {
            dueMay(e, 1);
        }
        for (String e : new String[] {"0", "-0", "1 - 1", "week - 2", "0*9", "0000", "wished - 1"}) {
            dueMay(e, 0);
        }
    }
}
