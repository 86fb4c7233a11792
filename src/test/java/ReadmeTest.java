import java.io.File;
import java.io.IOException;
import java.lang.reflect.Method;
import java.net.URL;
import java.net.URLClassLoader;
import java.nio.file.Files;
import java.nio.file.Path;
import java.util.ArrayList;
import java.util.List;
import java.util.TreeSet;
import java.util.regex.Matcher;
import java.util.regex.Pattern;

/** What README.md says is so: its calls answer what stands behind them, and it tells of each call and each test. */
public final class ReadmeTest {
    private static final Pattern BLOCK = Pattern.compile("```java\n(.*?)```", Pattern.DOTALL);
    private static final Pattern CALL = Pattern.compile("(?:int (\\w+) = )?(x\\.\\w+\\(.*\\));\\s+// (-?\\d+): .*");
    private static final Check check = new Check();

    public static void main(String[] args) throws Exception {
        String readme = Files.readString(Path.of("README.md"));
        examples(readme);
        calls(readme);
        tests(readme);
        check.end("ReadmeTest");
    }

    /** The examples are one run of calls, compiled as they stand. */
    private static void examples(String readme) throws Exception {
        check.part("README's examples");
        StringBuilder code = new StringBuilder();
        List<String> calls = new ArrayList<>();
        List<Long> want = new ArrayList<>();
        Matcher block = BLOCK.matcher(readme);
        while (block.find()) {
            for (String line : block.group(1).split("\n")) {
                Matcher call = CALL.matcher(line);
                if (!call.matches()) {
                    check.due("an answer stands behind " + line, line.contains("//") ? 0 : 1, 1);
                    code.append(line).append('\n');
                    continue;
                }
                String name = call.group(1);
                code.append(name == null ? "" : "int " + name + " = " + call.group(2) + ";\n");
                code.append("got[" + calls.size() + "] = " + (name == null ? call.group(2) : name) + ";\n");
                calls.add(call.group(2));
                want.add(Long.valueOf(call.group(3)));
            }
        }
        check.due("there are examples", calls.size() > 20 ? 1 : 0, 1);
        long[] got = run("public final class Example {\npublic static void run(long[] got) {\n" + code + "}\n}\n",
            calls.size());
        for (int i = 0; i < got.length; i++) {
            check.due(calls.get(i), got[i], want.get(i));
        }
    }

    private static long[] run(String code, int calls) throws Exception {
        long[] got = new long[calls];
        String path = System.getProperty("java.class.path");
        Path dir = Files.createTempDirectory(Path.of(path.split(File.pathSeparator)[0]), "readme");
        Path source = dir.resolve("Example.java");
        try {
            Files.writeString(source, code);
            int failed = new ProcessBuilder("javac", "-cp", path, "-d", dir.toString(), source.toString()).inheritIO()
                .start().waitFor();
            check.due("the examples compile", failed, 0);
            if (failed == 0) {
                try (URLClassLoader loader = new URLClassLoader(new URL[] {dir.toUri().toURL()})) {
                    loader.loadClass("Example").getMethod("run", long[].class).invoke(null, (Object) got);
                }
            }
        } finally {
            for (File file : dir.toFile().listFiles()) {
                file.delete();
            }
            Files.delete(dir);
        }
        return got;
    }

    private static void calls(String readme) {
        check.part("README's calls");
        for (Method m : NotBothInAugust.class.getMethods()) {
            if (m.getDeclaringClass() == NotBothInAugust.class) {
                check.due(m.getName(), readme.contains("`" + m.getName() + "`") ? 1 : 0, 1);
            }
        }
    }

    private static void tests(String readme) throws IOException {
        check.part("README's tests");
        TreeSet<String> there = new TreeSet<>();
        for (File file : new File("src/test/java").listFiles()) {
            String name = file.getName().replace(".java", "");
            there.add(name);
            check.due(name, name.equals("Check") || readme.contains("`" + name + "`") ? 1 : 0, 1);
        }
        Matcher named = Pattern.compile("\\b(\\w+Test|PlainModel)\\b").matcher(readme);
        while (named.find()) {
            check.due(named.group(1) + " is there", there.contains(named.group(1)) ? 1 : 0, 1);
        }
        Matcher path = Pattern.compile("`((?:\\.\\./shared|src)/[\\w./]+)`").matcher(readme);
        while (path.find()) {
            check.due(path.group(1) + " is there", new File(path.group(1)).exists() ? 1 : 0, 1);
        }
    }
}
