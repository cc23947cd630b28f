import java.io.File;
import java.io.IOException;
import java.nio.charset.StandardCharsets;
import java.nio.file.Files;
import java.nio.file.Path;
import java.util.ArrayList;
import java.util.Comparator;
import java.util.List;
import java.util.Set;
import java.util.TreeSet;
import java.util.regex.Matcher;
import java.util.regex.Pattern;
import java.util.stream.Stream;

/** README.md holds: its example prints what it tells, its commands run as they stand, its tables leave out no call and no test. */
public final class ReadmeTest {
    private static int wrong = 0;

    private static void same(String what, Object got, Object want) {
        if (!got.equals(want)) {
            wrong++;
            System.out.println(what + " is " + got + ", due is " + want);
        }
    }

    private static List<String> blocks(String readme, String kind) {
        List<String> all = new ArrayList<>();
        Matcher m = Pattern.compile("(?s)```" + kind + "\n(.*?)```").matcher(readme);
        while (m.find()) {
            all.add(m.group(1));
        }
        return all;
    }

    /** Runs the lines one by one, without a shell: all that the last one prints. */
    private static String run(Path folder, String lines) throws Exception {
        String printed = "";
        for (String line : lines.strip().split("\n")) {
            Process p = new ProcessBuilder(line.split(" ")).directory(folder.toFile()).redirectErrorStream(true).start();
            printed = new String(p.getInputStream().readAllBytes(), StandardCharsets.UTF_8);
            same("the exit code of " + line, p.waitFor(), 0);
        }
        return printed;
    }

    private static void copy(Path from, Path to) throws IOException {
        try (Stream<Path> all = Files.walk(from)) {
            for (Path p : (Iterable<Path>) all::iterator) {
                Path there = to.resolve(from.relativize(p).toString());
                if (Files.isDirectory(p)) {
                    Files.createDirectories(there);
                } else {
                    Files.copy(p, there);
                }
            }
        }
    }

    private static void delete(Path folder) throws IOException {
        try (Stream<Path> all = Files.walk(folder)) {
            all.sorted(Comparator.reverseOrder()).map(Path::toFile).forEach(File::delete);
        }
    }

    /** In a folder that has only the project's src and, beside it, shared. */
    private static void commands(String readme) throws Exception {
        Path both = Files.createTempDirectory("readme");
        try {
            Path project = both.resolve("project");
            copy(Path.of("src"), project.resolve("src"));
            copy(Path.of("../shared"), both.resolve("shared"));
            Files.writeString(project.resolve("Example.java"), blocks(readme, "java").get(0));
            List<String> sh = blocks(readme, "sh");
            same("blocks of commands", sh.size(), 4);
            same("what the example prints", run(project, sh.get(0)), blocks(readme, "text").get(0));
            same("how all tests are run", sh.get(1).strip(), ".ci/run");
            run(project, sh.get(2));
            if (Files.exists(Path.of("../shared/tests/SignCellarRuns.java"))) {
                run(project, sh.get(3));
            }
        } finally {
            delete(both);
        }
    }

    private static Set<String> found(String text, String pattern) {
        Set<String> all = new TreeSet<>();
        Matcher m = Pattern.compile(pattern).matcher(text);
        while (m.find()) {
            all.add(m.group(1));
        }
        return all;
    }

    /** Calls are told with the names that the face has for their arguments. */
    private static void tables(String readme) throws Exception {
        String document = Files.readString(Path.of("../shared/DOC.md"));
        Set<String> calls = new TreeSet<>();
        for (String call : found(document, "public (?:int|long) (\\w+\\(.*?\\));")) {
            calls.add(call.replaceAll("(int|long) ", ""));
        }
        same("the table of calls", found(readme, "\n\\| `(\\w+\\([^`]*\\))`"), calls);
        Set<String> tests = new TreeSet<>();
        for (String name : new File("src/test/java").list()) {
            if (name.endsWith("Test.java")) {
                tests.add(name.replace(".java", ""));
            }
        }
        String table = readme.substring(readme.indexOf("| test |"));
        same("the table of tests", found(table, "`(\\w+Test)`"), tests);
        Set<String> classes = new TreeSet<>();
        for (Class<?> inner : SignCellar.class.getDeclaredClasses()) {
            classes.add(inner.getSimpleName());
        }
        String built = readme.substring(readme.indexOf("| class inside |"), readme.indexOf("## Tests"));
        same("the table of classes", found(built, "`([A-Z]\\w+)`"), classes);
    }

    public static void main(String[] args) throws Exception {
        String readme = Files.readString(Path.of("README.md"));
        commands(readme);
        tables(readme);
        System.out.println("README.md: " + wrong + " faults");
        if (wrong != 0) {
            System.exit(1);
        }
    }
}
