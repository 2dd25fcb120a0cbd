import java.io.File;
import java.io.IOException;
import java.lang.reflect.Method;
import java.lang.reflect.Modifier;
import java.net.URL;
import java.net.URLClassLoader;
import java.nio.file.Files;
import java.nio.file.Path;
import java.util.ArrayList;
import java.util.List;
import java.util.Locale;
import java.util.regex.Matcher;
import java.util.regex.Pattern;
import java.util.stream.Stream;
import javax.tools.ToolProvider;

/** What README.md says of the class and of its tests is so: its example's answers, the calls and tests that it names. */
public final class ReadmeTest {
    private static final Pattern EXAMPLE = Pattern.compile("```java\n(.*?)```", Pattern.DOTALL);
    private static final Pattern ANSWERED = Pattern.compile("x\\.(.*\\));\\s+// (-?\\d+|Long\\.MIN_VALUE)(:.*)?");
    private static final Pattern TEST = Pattern.compile("`(?:src/test/java/|src/test/support/)?(\\w+\\.java)`");

    private static final List<String> wrong = new ArrayList<>();
    private static int looked;

    private static void want(boolean fine, String what) {
        looked++;
        if (!fine) {
            wrong.add(what);
        }
    }

    public static void main(String[] args) throws Exception {
        File main = new File(args.length > 0 ? args[0] : "src/main/java/TelegramFeelings.java").getAbsoluteFile();
        Path project = main.toPath().resolve("../../../..").normalize();
        String readme = Files.readString(project.resolve("README.md"));
        exampleAnswersAsItSays(readme, main);
        namesEachCall(readme);
        namesEachTest(readme, project);
        refusalsAreTheClasss(readme);
        for (String w : wrong) {
            System.out.println("README.md: " + w);
        }
        System.out.println(looked + " things looked at, " + wrong.size() + " wrong");
        if (!wrong.isEmpty()) {
            System.exit(1);
        }
    }

    /** The example becomes a program of its own: each call with an answer behind it, the others as they stand. */
    private static void exampleAnswersAsItSays(String readme, File main) throws Exception {
        Matcher example = EXAMPLE.matcher(readme);
        want(example.find(), "no example");
        StringBuilder program = new StringBuilder();
        program.append("public final class ReadmeExample {\n public static void run(java.util.List<String> answers) {\n");
        List<String> due = new ArrayList<>();
        for (String line : example.group(1).split("\n")) {
            Matcher answered = ANSWERED.matcher(line);
            if (answered.matches()) {
                due.add(answered.group(1) + ": " + answered.group(2).replace("Long.MIN_VALUE", "" + Long.MIN_VALUE));
                program.append("answers.add(String.valueOf(x.").append(answered.group(1)).append("));\n");
            } else {
                want(line.isEmpty() || line.startsWith("//") || line.contains("new TelegramFeelings()"), "no answer told: " + line);
                program.append(line).append('\n');
            }
        }
        program.append(" }\n}\n");
        List<String> answers = new ArrayList<>();
        runProgram(program.toString(), main, answers);
        want(due.size() == answers.size(), "of " + due.size() + " calls " + answers.size() + " answered");
        for (int i = 0; i < Math.min(due.size(), answers.size()); i++) {
            String call = due.get(i).substring(0, due.get(i).lastIndexOf(": "));
            want(due.get(i).equals(call + ": " + answers.get(i)), due.get(i) + " is told, the answer is " + answers.get(i));
        }
    }

    private static void runProgram(String program, File main, List<String> answers) throws Exception {
        Path out = Files.createTempDirectory("readme");
        Path source = out.resolve("ReadmeExample.java");
        Files.writeString(source, program);
        int failed = ToolProvider.getSystemJavaCompiler().run(null, System.out, System.out,
                "-proc:none", "-d", out.toString(), main.toString(), source.toString());
        want(failed == 0, "the example does not compile");
        if (failed == 0) {
            try (URLClassLoader loader = new URLClassLoader(new URL[] {out.toUri().toURL()}, null)) {
                loader.loadClass("ReadmeExample").getMethod("run", List.class).invoke(null, answers);
            }
        }
        remove(out);
    }

    private static void remove(Path directory) throws IOException {
        try (Stream<Path> files = Files.list(directory)) {
            for (Path file : (Iterable<Path>) files::iterator) {
                Files.delete(file);
            }
        }
        Files.delete(directory);
    }

    private static void namesEachCall(String readme) {
        String calls = readme.substring(readme.indexOf("### The calls"), readme.indexOf("### The answers"));
        for (Method method : TelegramFeelings.class.getDeclaredMethods()) {
            if (Modifier.isPublic(method.getModifiers())) {
                want(calls.contains("`" + method.getName() + "`"), "doesn't name the call " + method.getName());
            }
        }
        Matcher name = Pattern.compile("`(\\w+)`").matcher(calls);
        while (name.find()) {
            String call = name.group(1);
            want(Stream.of(TelegramFeelings.class.getMethods()).anyMatch(m -> m.getName().equals(call)), "no call " + call);
        }
    }

    /** Each test that is there is named, each that is named is there. */
    private static void namesEachTest(String readme, Path project) {
        List<String> there = new ArrayList<>();
        for (String directory : new String[] {"src/test/java", "src/test/support"}) {
            String[] files = project.resolve(directory).toFile().list();
            there.addAll(List.of(files == null ? new String[0] : files));
        }
        want(there.size() > 2, "no tests are there");
        List<String> named = new ArrayList<>();
        Matcher name = TEST.matcher(readme.substring(readme.indexOf("## Tests")));
        while (name.find()) {
            named.add(name.group(1));
        }
        for (String file : there) {
            want(named.contains(file), "doesn't name the test " + file);
        }
        for (String file : named) {
            want(there.contains(file), "names a test that isn't there: " + file);
        }
        want(new File(project.toFile(), ".ci/run").canExecute(), ".ci/run can't be run");
    }

    private static void refusalsAreTheClasss(String readme) throws Exception {
        for (String name : new String[] {"BAD", "NOT", "FULL", "STATE"}) {
            int value = TelegramFeelings.class.getField(name).getInt(null);
            want(readme.contains(String.format(Locale.ROOT, "`%s` (%d)", name, value)), "doesn't tell " + name + " as " + value);
        }
    }
}
