import java.io.IOException;
import java.lang.reflect.Constructor;
import java.lang.reflect.Field;
import java.lang.reflect.Method;
import java.lang.reflect.Modifier;
import java.nio.file.Files;
import java.nio.file.Path;
import java.util.ArrayList;
import java.util.Arrays;
import java.util.List;
import java.util.TreeSet;
import java.util.regex.Matcher;
import java.util.regex.Pattern;

/** What of ../shared/LANGUAGE.md can be read off the class and its source. */
public final class LanguageTest {
    private static final String FACE = "apart(int,int,int) back() bars(int,int) best(int) book(int,int) cell(int,int,int) "
        + "chance(int,int,int):long change(int) clerk(int,int,int) clerks(int,int,int,int) copy(int,int,int,int,int) "
        + "count(int) drawn(int) feed(int) film(int,int) force(int) image() inTurn(int) plan(int) set(int,int,int) "
        + "settle() sheet(int,int,int) taken(int,int) tells(int,int,int) text() told(int,int) year()";
    private static final String WORDS = "import throw throws try catch synchronized assert lambda record yield var double "
        + "float Object protected finally native transient volatile Exact";
    private static final Check check = new Check();

    public static void main(String[] args) throws IOException {
        face();
        members();
        source();
        check.end("LanguageTest");
    }

    private static void face() {
        check.part("rule 1");
        TreeSet<String> found = new TreeSet<>();
        for (Method m : NotBothInAugust.class.getDeclaredMethods()) {
            if (Modifier.isPrivate(m.getModifiers())) {
                continue;
            }
            List<String> types = new ArrayList<>();
            for (Class<?> c : m.getParameterTypes()) {
                types.add(c.getName());
            }
            String type = m.getReturnType() == int.class ? "" : ":" + m.getReturnType().getName();
            found.add(m.getName() + "(" + String.join(",", types) + ")" + type);
            check.due(m.getName() + " is public and its object's", m.getModifiers(), Modifier.PUBLIC);
        }
        TreeSet<String> want = new TreeSet<>(Arrays.asList(FACE.split(" ")));
        check.due("face " + found, found.equals(want) ? 1 : 0, 1);
        check.due("class", NotBothInAugust.class.getModifiers(), Modifier.PUBLIC | Modifier.FINAL);
        Constructor<?>[] made = NotBothInAugust.class.getDeclaredConstructors();
        check.due("constructors", made.length, 1);
        check.due("constructor is public", made[0].getModifiers(), Modifier.PUBLIC);
        check.due("constructor's parameters", made[0].getParameterCount(), 0);
        TreeSet<String> fields = new TreeSet<>();
        for (Field f : NotBothInAugust.class.getDeclaredFields()) {
            if (!Modifier.isPrivate(f.getModifiers())) {
                fields.add(f.getName());
                check.due(f.getName(), f.getModifiers(), Modifier.PUBLIC | Modifier.STATIC | Modifier.FINAL);
            }
        }
        check.due("constants " + fields, fields.equals(new TreeSet<>(List.of("NONE", "BAD", "STATE", "FULL", "NO"))) ? 1 : 0, 1);
    }

    private static void members() {
        check.part("rules 1, 2, 5, 11");
        Class<?>[] inside = NotBothInAugust.class.getDeclaredClasses();
        check.due("at most some twelve classes", inside.length + 1 <= 12 ? 1 : 0, 1);
        TreeSet<String> publicNames = new TreeSet<>();
        for (String name : FACE.split(" ")) {
            publicNames.add(name.substring(0, name.indexOf('(')));
        }
        List<Class<?>> all = new ArrayList<>(Arrays.asList(inside));
        all.add(NotBothInAugust.class);
        for (Class<?> c : all) {
            check.due(c + " is static", c == NotBothInAugust.class || Modifier.isStatic(c.getModifiers()) ? 1 : 0, 1);
            int fields = 0;
            for (Field f : c.getDeclaredFields()) {
                boolean isStatic = Modifier.isStatic(f.getModifiers());
                fields += isStatic ? 0 : 1;
                check.due(f + " is no static that changes", isStatic && !Modifier.isFinal(f.getModifiers()) ? 1 : 0, 0);
            }
            check.due(c + " has at most some twenty fields", fields <= 20 ? 1 : 0, 1);
            for (Method m : c.getDeclaredMethods()) {
                check.due(m + " takes at most seven", m.getParameterCount() <= 7 ? 1 : 0, 1);
                boolean isHidden = c != NotBothInAugust.class || Modifier.isPrivate(m.getModifiers());
                check.due(m + " bears a public one's name", isHidden && publicNames.contains(m.getName()) ? 1 : 0, 0);
            }
        }
    }

    private static void source() throws IOException {
        check.part("rules 3, 4, 6, 11, 12");
        String source = Files.readString(Path.of("src/main/java/NotBothInAugust.java"));
        for (int i = 0; i < source.length(); i++) {
            check.due("a sign of 1 to 127", source.charAt(i) > 127 ? 1 : 0, 0);
        }
        String code = source.replaceAll("(?s)/\\*.*?\\*/", "").replaceAll("//[^\n]*", "")
            .replaceAll("\"[^\"\n]*\"", "\"\"").replaceAll("'[^'\n]*'", "' '");
        for (String word : WORDS.split(" ")) {
            check.due("word " + word, Pattern.compile("\\b" + word + "\\b").matcher(code).find() ? 1 : 0, 0);
        }
        for (String sign : new String[] {"->", "::", "@", "\"\" +", "+ \"\"", "<>"}) {
            check.due("sign " + sign, code.contains(sign) ? 1 : 0, 0);
        }
        // Things are made with an object and never later: the lines that make one belong to fields or constructors.
        Matcher made = Pattern.compile("(?m)^(.*)\\bnew\\b.*$").matcher(code);
        int lines = 0;
        while (made.find()) {
            String line = made.group().strip();
            lines++;
            boolean isField = line.startsWith("private final ") || line.startsWith("final ") || line.startsWith("new Clerk()");
            boolean isMade = line.equals("sheets[sheet] = new Sheet();") || line.equals("texts[text] = new Text(tape);");
            check.due("made later: " + line, isField || isMade ? 1 : 0, 1);
        }
        check.due("some are made", lines > 10 ? 1 : 0, 1);
        library(code);
        methodLengths(code);
    }

    // Of the library's classes only functions that rule 4 lists.
    private static void library(String code) {
        Matcher used = Pattern.compile("\\b(Integer|Long|Math|System|Arrays|List|ArrayList|String|Object|Character|Boolean)"
            + "\\.(\\w+)(.)").matcher(code);
        while (used.find()) {
            boolean isFunction = used.group(3).equals("(") && !used.group(2).endsWith("Exact");
            boolean isListed = List.of("Integer", "Long", "Math").contains(used.group(1))
                || used.group(1).equals("System") && used.group(2).equals("arraycopy");
            check.due("library: " + used.group(), isFunction && isListed ? 1 : 0, 1);
        }
    }

    private static void methodLengths(String code) {
        String[] lines = code.split("\n");
        int from = -1;
        String end = "";
        for (int i = 0; i < lines.length; i++) {
            String line = lines[i];
            boolean isHead = line.endsWith(") {") && !line.strip().matches("(if|for|while|switch|\\}).*");
            if (from < 0 && isHead) {
                from = i;
                end = line.substring(0, line.length() - line.stripLeading().length()) + "}";
            } else if (from >= 0 && line.equals(end)) {
                check.due("lines of " + lines[from].strip(), i - from <= 60 ? 1 : 0, 1);
                from = -1;
            }
        }
    }
}
