import java.io.IOException;
import java.lang.reflect.Method;
import java.lang.reflect.Modifier;
import java.net.URL;
import java.net.URLClassLoader;
import java.nio.file.Files;
import java.nio.file.Path;
import java.util.ArrayList;
import java.util.List;
import java.util.Set;
import java.util.TreeSet;
import java.util.regex.Matcher;
import java.util.regex.Pattern;
import java.util.stream.Stream;
import javax.tools.JavaCompiler;
import javax.tools.ToolProvider;

/** README.md: its code compiles, each call in it gives the answer shown, and it names what is there. */
public final class ReadmeTest {
    private static final Pattern SHOWN = Pattern.compile("(.+\\));\\s+// ([^\\s:]+)(: .*)?");
    private static final Pattern UNANSWERED = Pattern.compile("TwoLeash x = new TwoLeash\\(\\);");

    private ReadmeTest() {
    }

    public static void main(String[] args) throws Exception {
        String readme = Files.readString(Path.of("README.md"));
        codeAndAnswers(readme);
        everyCallIsShown(readme);
        everyTestIsNamed(readme);
        everyClassIsNamed(readme);
        howToRunTheTests(readme);
        Checks.end();
    }

    private static List<String> blocks(String readme, String language) {
        List<String> blocks = new ArrayList<>();
        Matcher block = Pattern.compile("(?s)```" + language + "\n(.*?)```").matcher(readme);
        while (block.find()) {
            blocks.add(block.group(1));
        }
        return blocks;
    }

    /** One program of all code: functions stand beside run(), each other line that shows an answer notes both. */
    private static void codeAndAnswers(String readme) throws Exception {
        StringBuilder functions = new StringBuilder();
        StringBuilder lines = new StringBuilder();
        int shown = 0;
        for (String block : blocks(readme, "java")) {
            if (block.startsWith("static ")) {
                functions.append(block);
                continue;
            }
            for (String line : block.lines().toList()) {
                Matcher call = SHOWN.matcher(line);
                if (call.matches()) {
                    lines.append("seen.add(").append(call.group(1)).append(");\n");
                    lines.append("due.add(").append(call.group(2)).append(");\n");
                    shown++;
                } else {
                    Checks.due("no answer is shown: " + line, UNANSWERED.matcher(line).matches(), true);
                    lines.append(line).append('\n');
                }
            }
        }
        Checks.due("answers were shown", shown > 60, true);
        compareAnswers(run(functions.toString(), lines.toString()), readme);
    }

    private static List<List<Object>> run(String functions, String lines) throws Exception {
        String program = "import java.util.*;\npublic final class Shown {\n"
            + functions + "public static List<List<Object>> run() {\n"
            + "List<Object> seen = new ArrayList<>();\nList<Object> due = new ArrayList<>();\n"
            + lines + "return List.of(seen, due);\n}\n}\n";
        Path built = Files.createTempDirectory("readme");
        Path source = Files.writeString(built.resolve("Shown.java"), program);
        JavaCompiler compiler = ToolProvider.getSystemJavaCompiler();
        String own = System.getProperty("java.class.path");
        int faults = compiler.run(null, null, null, "-cp", own, "-d", built.toString(), source.toString());
        Checks.due("faults in the code of README.md", faults, 0);
        if (faults != 0) {
            Checks.end();
        }
        List<List<Object>> answers = new ArrayList<>();
        try (URLClassLoader loader = new URLClassLoader(new URL[] {built.toUri().toURL()})) {
            Object pair = loader.loadClass("Shown").getMethod("run").invoke(null);
            for (Object list : (List<?>) pair) {
                answers.add(new ArrayList<>((List<?>) list));
            }
        }
        remove(built);
        return answers;
    }

    private static void remove(Path built) throws IOException {
        try (Stream<Path> files = Files.list(built)) {
            for (Path file : files.toList()) {
                Files.delete(file);
            }
        }
        Files.delete(built);
    }

    private static void compareAnswers(List<List<Object>> answers, String readme) {
        List<String> calls = new ArrayList<>();
        for (String line : readme.lines().toList()) {
            if (SHOWN.matcher(line).matches()) {
                calls.add(line);
            }
        }
        for (int i = 0; i < answers.get(0).size(); i++) {
            Checks.due(calls.get(i), number(answers.get(0).get(i)), number(answers.get(1).get(i)));
            boolean truth = answers.get(1).get(i) instanceof Boolean;
            Checks.due("true or false: " + calls.get(i), answers.get(0).get(i) instanceof Boolean, truth);
        }
    }

    private static long number(Object answer) {
        return answer instanceof Boolean truth ? (truth ? 1 : 0) : ((Number) answer).longValue();
    }

    private static void everyCallIsShown(String readme) {
        String code = String.join("", blocks(readme, "java"));
        for (Method method : TwoLeash.class.getDeclaredMethods()) {
            if (Modifier.isPublic(method.getModifiers())) {
                Checks.due("shown: " + method.getName(), code.contains("x." + method.getName() + "("), true);
            }
        }
    }

    private static void everyTestIsNamed(String readme) throws IOException {
        Set<String> named = new TreeSet<>();
        Matcher name = Pattern.compile("`(\\w+Test)`").matcher(readme.substring(readme.indexOf("## Tests")));
        while (name.find()) {
            named.add(name.group(1) + ".java");
        }
        Set<String> standing = new TreeSet<>();
        try (Stream<Path> files = Files.list(Path.of("src/test/java"))) {
            for (Path file : files.toList()) {
                String told = file.getFileName().toString();
                if (told.endsWith("Test.java")) {
                    standing.add(told);
                }
            }
        }
        Checks.due("tests named " + named + ", standing " + standing, named.equals(standing), true);
    }

    private static void everyClassIsNamed(String readme) {
        String built = readme.substring(readme.indexOf("## How it is built"), readme.indexOf("## Tests"));
        for (Class<?> inside : TwoLeash.class.getDeclaredClasses()) {
            Checks.due("named: " + inside, built.contains("`" + inside.getSimpleName() + "`:"), true);
        }
    }

    /** The files that the commands name are there, and each class that they start has a main method. */
    private static void howToRunTheTests(String readme) throws Exception {
        Checks.due(".ci/run is told", readme.contains("`.ci/run` compiles"), true);
        Checks.due(".ci/run can be run", Files.isExecutable(Path.of(".ci/run")), true);
        List<String> commands = String.join("", blocks(readme, "sh")).lines().toList();
        Checks.due("commands", commands.size(), 4);
        for (String command : commands) {
            String[] words = command.split(" ");
            if (words[0].equals("java")) {
                Class<?> started = Class.forName(words[3]);
                Checks.due(command, Modifier.isStatic(started.getMethod("main", String[].class).getModifiers()), true);
            } else if (words[0].equals("javac")) {
                Checks.due(words[3], Files.exists(Path.of(words[3])), true);
                Checks.due(words[4], words[4].equals("src/test/java/*.java"), true);
            }
        }
    }
}
