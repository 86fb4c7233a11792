/**
 * Runs of TOKENS, each that can stand followed by each there is: whether that can stand there, and whether the run
 * is an E. It is told by what is due and what is open, not by the grammar's names.
 */
public final class EdgeTokensTest {
    private static final String[] TOKENS = {"1", "week", "-", "not", "(", ")", "+", "*", "<", "=", "or", "and", ";",
        "may", "zz", "12345", "$"};
    private static final Check check = new Check();

    /** What has been read of an E. */
    private static final class Read {
        // what is open: n for a not, - and ( as they are, [ for a ( in a SUM behind a comparison's sign
        String open = "";
        boolean isOneDue = true;
        boolean canBeNot = true;
        boolean isCompared;

        Read then(String token) {
            Read next = new Read();
            next.open = open;
            next.isCompared = isCompared;
            boolean stands = isOneDue ? next.begins(token, canBeNot) : next.goesOn(token);
            return stands ? next : null;
        }

        private boolean begins(String token, boolean not) {
            if (token.equals("1") || token.equals("week")) {
                endOne();
                return true;
            }
            boolean opens = token.equals("(") || token.equals("-") || token.equals("not") && not;
            if (!opens || open.length() == 5) {
                return false;
            }
            open += token.equals("(") && isCompared ? "[" : token.substring(0, 1);
            isCompared &= !token.equals("(");
            canBeNot = !token.equals("-");
            return true;
        }

        private boolean goesOn(String token) {
            switch (token) {
                case "<": case "=":
                    canBeNot = false;
                    boolean isFirst = !isCompared;
                    isCompared = true;
                    return isFirst;
                case "+": case "-": case "*":
                    canBeNot = false;
                    return true;
                case "or": case "and":
                    end("n");
                    isCompared = false;
                    return true;
                case ")":
                    return closes();
                default:
                    return false;
            }
        }

        private boolean closes() {
            end("n");
            if (!open.endsWith("(") && !open.endsWith("[")) {
                return false;
            }
            isCompared = open.endsWith("[");
            open = open.substring(0, open.length() - 1);
            endOne();
            return true;
        }

        private void endOne() {
            isOneDue = false;
            end("-");
        }

        private void end(String sign) {
            while (open.endsWith(sign)) {
                open = open.substring(0, open.length() - 1);
            }
        }

        boolean canEnd() {
            return !isOneDue && !open.contains("(") && !open.contains("[");
        }
    }

    public static void main(String[] args) {
        int deep = args.length > 0 ? Integer.parseInt(args[0]) : 5;
        String[] ahead = {"", "( ( ( (", "- - - -", "not not not not", "( - ( -", "not ( not (", "( not - (", "- - - - - 1 <",
            "not not not not 1 +", "( ( ( 1 < (", "( ( 1 ) = ( ( - 1", "1 and not ( not 1 or ( 1 *"};
        for (String run : ahead) {
            check.part("behind " + run);
            Read read = new Read();
            for (String token : run.split(" ")) {
                read = run.isEmpty() ? read : read.then(token);
            }
            each(run.isEmpty() ? "joys" : "joys " + run, read, deep);
        }
        check.end("EdgeTokensTest");
    }

    private static void each(String ahead, Read read, int more) {
        for (String token : TOKENS) {
            Read then = read.then(token);
            String run = ahead + " " + token;
            if (token.equals(";") && read.canEnd()) {
                due(run + " earns 1 ; may 1 ;", 1);
                due(run, -100 - run.length());
            } else if (then == null) {
                due(run, -101 - ahead.length());
            } else {
                due(run, -100 - run.length());
                if (more > 1) {
                    each(run, then, more - 1);
                }
            }
        }
    }

    private static void due(String run, int want) {
        if (run.length() <= 160) {
            check.due(run, Check.text(new NotBothInAugust(), run), want);
        }
    }
}
