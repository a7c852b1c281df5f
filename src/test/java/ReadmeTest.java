import java.io.IOException;
import java.lang.reflect.Method;
import java.lang.reflect.Modifier;
import java.nio.file.Files;
import java.nio.file.Path;
import java.util.ArrayList;
import java.util.List;
import java.util.Set;
import java.util.TreeSet;
import java.util.regex.Matcher;
import java.util.regex.Pattern;
import java.util.stream.Collectors;
import java.util.stream.Stream;

/** README.md holds: its commands work as they stand, and its tables name each call and each test. */
public final class ReadmeTest {
    /** This is what runs the test, so the test does not run it again. */
    private static final String THE_SCRIPT = ".ci/run\n";

    private static String page = "";

    public static void main(String[] args) throws Exception {
        page = Files.readString(Path.of("README.md"));
        theProgramIsTheExample();
        theCommandsWork();
        theCallsAreNamed();
        theTestsAreNamed();
        Check.end("ReadmeTest");
    }

    /** What stands between fences of a kind. */
    private static List<String> blocks(String kind) {
        List<String> all = new ArrayList<>();
        Matcher found = Pattern.compile("(?ms)^```" + kind + "\n(.*?)^```$").matcher(page);
        while (found.find()) {
            all.add(found.group(1));
        }
        return all;
    }

    private static void theProgramIsTheExample() throws IOException {
        String example = Files.readString(Path.of("src/example/Supper.java"));
        Check.due("programs", blocks("java").size(), 1);
        Check.due("the program is src/example/Supper.java", blocks("java").get(0).equals(example) ? 1 : 0, 1);
    }

    private static void theCommandsWork() throws Exception {
        List<String> commands = blocks("sh");
        Check.due("blocks of commands", commands.size(), 4);
        Check.due("one is the script", commands.contains(THE_SCRIPT) ? 1 : 0, 1);
        Check.due("the script can be run", Files.isExecutable(Path.of(".ci/run")) ? 1 : 0, 1);
        for (String command : commands) {
            if (command.equals(THE_SCRIPT)) {
                continue;
            }
            String printed = printed(command);
            if (command.contains(" Supper")) {
                Check.due("what Supper prints is as it stands", printed.equals(blocks("text").get(0)) ? 1 : 0, 1);
            }
        }
    }

    /** What they print; they end with exit code 0. All that they write goes with their folder. */
    private static String printed(String commands) throws Exception {
        Path folder = Files.createTempDirectory("readme");
        ProcessBuilder shell = new ProcessBuilder("sh", "-eu", "-c", commands);
        shell.redirectError(ProcessBuilder.Redirect.INHERIT);
        shell.environment().put("TMPDIR", folder.toString());
        Process process = shell.start();
        String printed = new String(process.getInputStream().readAllBytes());
        int code = process.waitFor();
        Check.due("exit code of " + commands, code, 0);
        try (Stream<Path> all = Files.walk(folder)) {
            for (Path p : all.sorted((a, b) -> b.compareTo(a)).collect(Collectors.toList())) {
                Files.delete(p);
            }
        }
        return printed;
    }

    /** The first cells of the tables' rows that match. */
    private static Set<String> firstCells(String pattern) {
        Set<String> all = new TreeSet<>();
        Matcher found = Pattern.compile("(?m)^\\| `" + pattern + "` \\|").matcher(page);
        while (found.find()) {
            Check.due(found.group(1) + " stands there once", all.add(found.group(1)) ? 1 : 0, 1);
        }
        return all;
    }

    private static void theCallsAreNamed() {
        Set<String> due = new TreeSet<>();
        for (Method m : LeavesRoom.class.getDeclaredMethods()) {
            if (Modifier.isPublic(m.getModifiers())) {
                due.add(m.getName() + " " + m.getParameterCount());
            }
        }
        Set<String> got = new TreeSet<>();
        for (String call : firstCells("(\\w+\\([\\w, ]*\\))")) {
            String inside = call.substring(call.indexOf('(') + 1, call.length() - 1);
            got.add(call.substring(0, call.indexOf('(')) + " " + (inside.isEmpty() ? 0 : inside.split(", ").length));
        }
        same("calls", got, due);
    }

    private static void theTestsAreNamed() throws IOException {
        Set<String> due = new TreeSet<>();
        try (Stream<Path> files = Files.list(Path.of("src/test/java"))) {
            files.map(f -> f.getFileName().toString()).filter(f -> f.endsWith("Test.java"))
                .forEach(f -> due.add(f.replace(".java", "")));
        }
        same("tests", firstCells("(\\w+Test)"), due);
    }

    private static void same(String what, Set<String> got, Set<String> due) {
        if (!got.equals(due)) {
            System.out.println(what + ": " + got + ", due are " + due);
        }
        Check.due(what, got.equals(due) ? 1 : 0, 1);
    }
}
