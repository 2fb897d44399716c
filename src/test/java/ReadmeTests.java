import java.io.IOException;
import java.nio.file.Files;
import java.nio.file.Path;
import java.util.ArrayList;
import java.util.List;
import java.util.Set;
import java.util.TreeSet;
import java.util.regex.Matcher;
import java.util.regex.Pattern;
import java.util.stream.Stream;

/** README.md: its example answers as it says, its commands run, and the tests that it names are all there are. */
public final class ReadmeTests {
    private static final Pattern ANSWERED = Pattern.compile("(.*);\\s+// (-?\\d+)(:.*)?");
    private static int checked;
    private static int wrong;

    private static void check(String what, boolean holds) {
        checked++;
        if (!holds) {
            wrong++;
            System.out.println("README.md: " + what);
        }
    }

    private static List<String> blocks(String readme, String language) {
        List<String> blocks = new ArrayList<>();
        Matcher m = Pattern.compile("(?s)```" + language + "\n(.*?)```").matcher(readme);
        while (m.find()) {
            blocks.add(m.group(1));
        }
        return blocks;
    }

    /** A program of the method and of the calls, which says each answer that is not the one behind the call. */
    private static String program(String method, String calls) {
        StringBuilder b = new StringBuilder("public final class Example {\nstatic int wrong;\n");
        b.append("static void due(String call, long got, long want) {\n if (got == want) { return; }\n wrong++;\n");
        b.append(" System.out.println(call + \" answers \" + got + \", not \" + want);\n}\n").append(method);
        b.append("public static void main(String[] args) {\n");
        int answers = 0;
        for (String line : calls.split("\n")) {
            Matcher m = ANSWERED.matcher(line);
            if (m.matches()) {
                String name = m.group(1).replace("\\", "\\\\").replace("\"", "\\\"");
                b.append("due(\"").append(name).append("\", ").append(m.group(1)).append(", ");
                b.append(m.group(2)).append("L);\n");
                answers++;
            } else {
                check("a call without its answer: " + line, line.contains(" = new TwoWayWall()"));
                b.append(line).append('\n');
            }
        }
        check("no answers in the example", answers > 0);
        return b.append("System.exit(wrong == 0 ? 0 : 1);\n}\n}\n").toString();
    }

    private static boolean runs(Path where, String commands) throws IOException, InterruptedException {
        ProcessBuilder shell = new ProcessBuilder("sh", "-e", "-c", commands);
        shell.directory(where.toFile()).redirectErrorStream(true);
        Process process = shell.start();
        String said = new String(process.getInputStream().readAllBytes());
        boolean well = process.waitFor() == 0;
        if (!well) {
            System.out.println(said);
        }
        return well;
    }

    /** A project's directory of its own, so that what the commands make is not left here. */
    private static Path place() throws IOException {
        Path top = Files.createTempDirectory("readme");
        Path main = Files.createDirectory(top.resolve("main"));
        Files.createSymbolicLink(main.resolve("src"), Path.of("src").toRealPath());
        Files.createSymbolicLink(top.resolve("shared"), Path.of("../shared").toRealPath());
        return main;
    }

    private static void remove(Path top) throws IOException {
        List<Path> all;
        try (Stream<Path> walk = Files.walk(top)) {
            all = new ArrayList<>(walk.toList());
        }
        for (int i = all.size() - 1; i >= 0; i--) {
            Files.delete(all.get(i));
        }
    }

    private static void example(String readme, Path main) throws IOException, InterruptedException {
        List<String> java = blocks(readme, "java");
        check("not a method and its calls", java.size() == 2);
        if (java.size() == 2) {
            Files.writeString(main.resolve("Example.java"), program(java.get(0), java.get(1)));
            String compile = "javac --release 17 -d example src/main/java/TwoWayWall.java Example.java\n";
            check("the example is not so", runs(main, compile + "java -cp example Example"));
        }
    }

    private static void commands(String readme, Path main) throws IOException, InterruptedException {
        List<String> shell = blocks(readme, "sh");
        check("not all tests and single ones", shell.size() == 2);
        // The first block is what runs this test, too.
        check("all tests", shell.get(0).equals(".ci/run\n") && Files.isExecutable(Path.of(".ci/run")));
        for (String commands : shell.subList(1, shell.size())) {
            check("the commands fail: " + commands, runs(main, commands));
        }
    }

    private static void names(String readme) throws IOException {
        Set<String> there = new TreeSet<>();
        try (Stream<Path> files = Files.list(Path.of("src/test/java"))) {
            files.forEach(f -> there.add(f.getFileName().toString().replace(".java", "")));
        }
        Set<String> named = new TreeSet<>();
        Matcher m = Pattern.compile("`(\\w+(Tests|Boundaries))`").matcher(readme);
        while (m.find()) {
            named.add(m.group(1));
        }
        check("tests named " + named + ", there are " + there, named.equals(there));
        m = Pattern.compile("`([\\w./]+/[\\w./]+)`").matcher(readme);
        while (m.find()) {
            check("there is no " + m.group(1), Files.exists(Path.of(m.group(1))));
        }
    }

    /** It once said that a refused call changes the tape alone. */
    private static void refusals(String readme) {
        check("what a refused call changes", readme.replaceAll("\\s+", " ").contains("What such a call changes: `status()`,"
            + " the count of such refusals (`count(11)` to `count(14)`), and if it was `tables()`, `fault()` and the tape,"
            + " which is empty then."));
        TwoWayWall x = new TwoWayWall();
        x.feed(0, 0, 0, 0, 0);
        check("a refused paint answers -1", x.paint(8, 0) == -1);
        check("it changes status() and count(11)", x.status() == -1 && x.count(11) == 1);
        check("it leaves fault() and the tape", x.fault() == -1 && x.count(10) == 20);
        check("a refused tables answers -6", x.tables() == -6);
        check("it changes status() and count(14)", x.status() == -6 && x.count(14) == 1 && x.count(11) == 1);
        check("it changes fault() and the tape", x.fault() == 0 && x.count(10) == 0);
    }

    public static void main(String[] args) throws IOException, InterruptedException {
        String readme = Files.readString(Path.of("README.md"));
        Path main = place();
        example(readme, main);
        commands(readme, main);
        names(readme);
        refusals(readme);
        remove(main.getParent());
        System.out.println(checked + " things of README.md looked at, " + wrong + " not so");
        if (wrong != 0) {
            System.exit(1);
        }
    }
}
