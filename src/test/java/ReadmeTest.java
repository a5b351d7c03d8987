import java.io.IOException;
import java.lang.reflect.Method;
import java.lang.reflect.Modifier;
import java.nio.charset.StandardCharsets;
import java.nio.file.Files;
import java.nio.file.Path;
import java.util.ArrayList;
import java.util.Comparator;
import java.util.List;
import java.util.TreeSet;
import java.util.regex.Matcher;
import java.util.regex.Pattern;
import java.util.stream.Stream;

/** What README.md says is tried as it is written there, in a copy of the project's folder. */
public final class ReadmeTest {
    private static final String DOCUMENT = "../shared/DOC.md";

    private final Check check;
    private final String readme;
    private final Path folder;

    private ReadmeTest(Check check, String readme, Path folder) {
        this.check = check;
        this.readme = readme;
        this.folder = folder;
    }

    public static void main(String[] args) throws Exception {
        Check check = new Check("ReadmeTest");
        Path room = Files.createTempDirectory("readme");
        try {
            copy(Path.of("."), room.resolve("main"));
            Files.createSymbolicLink(room.resolve("shared"), Path.of("../shared").toRealPath());
            ReadmeTest test = new ReadmeTest(check, Files.readString(Path.of("README.md")), room.resolve("main"));
            test.blocks();
            test.testsAreNamed();
            test.methodsAreNamed();
        } finally {
            remove(room);
        }
        check.end();
    }

    private static void copy(Path from, Path to) throws IOException {
        try (Stream<Path> all = Files.walk(from)) {
            for (Path one : (Iterable<Path>) all::iterator) {
                Path name = from.relativize(one);
                if (name.startsWith(".git") || name.startsWith("build")) {
                    continue;
                }
                if (Files.isDirectory(one)) {
                    Files.createDirectories(to.resolve(name.toString()));
                } else {
                    Files.write(to.resolve(name.toString()), Files.readAllBytes(one));
                }
            }
        }
    }

    private static void remove(Path room) throws IOException {
        List<Path> paths = new ArrayList<>();
        try (Stream<Path> all = Files.walk(room)) {
            all.sorted(Comparator.reverseOrder()).forEach(paths::add);
        }
        for (Path path : paths) {
            Files.delete(path);
        }
    }

    /** A block of Java is a file, a block for the shell is run, and a block of text is what it has printed. */
    private void blocks() throws Exception {
        Matcher block = Pattern.compile("(?m)^```(\\w+)\\n([\\s\\S]*?)^```$").matcher(readme);
        String printed = "";
        TreeSet<String> kinds = new TreeSet<>();
        while (block.find()) {
            kinds.add(block.group(1));
            String words = block.group(2);
            if (block.group(1).equals("java")) {
                Files.writeString(folder.resolve(fileOf(words)), words);
            } else if (block.group(1).equals("sh")) {
                printed = run(words);
            } else {
                check.same("what is printed", printed, words);
            }
        }
        check.same("the kinds of blocks", kinds, new TreeSet<>(List.of("java", "sh", "text")));
    }

    /** The name under which README.md says that the class is saved. */
    private String fileOf(String code) {
        Matcher name = Pattern.compile("public final class (\\w+)").matcher(code);
        String file = name.find() ? name.group(1) + ".java" : "none";
        check.same("naming " + file, readme.contains("Save this as\n`" + file + "` in the project's folder"), true);
        return file;
    }

    private String run(String commands) throws Exception {
        if (commands.strip().equals(".ci/run")) {
            check.same(".ci/run is executable", Files.isExecutable(Path.of(".ci/run")), true);
            return "";
        }
        Matcher shared = Pattern.compile("\\.\\./shared/tests/\\S+").matcher(commands);
        if (shared.find() && !Files.exists(Path.of(shared.group()))) {
            return "";
        }
        Process process = new ProcessBuilder("sh", "-e", "-c", commands).directory(folder.toFile())
                .redirectErrorStream(true).start();
        String printed = new String(process.getInputStream().readAllBytes(), StandardCharsets.UTF_8);
        check.same(commands.strip() + " (" + printed.strip() + ") ends with", process.waitFor(), 0);
        return printed;
    }

    private void testsAreNamed() throws IOException {
        TreeSet<String> named = new TreeSet<>();
        Matcher name = Pattern.compile("`(\\w+Test)`").matcher(readme);
        while (name.find()) {
            named.add(name.group(1));
        }
        TreeSet<String> there = new TreeSet<>();
        try (Stream<Path> files = Files.list(Path.of("src/test/java"))) {
            for (Path file : (Iterable<Path>) files::iterator) {
                String its = file.getFileName().toString().replace(".java", "");
                if (its.endsWith("Test")) {
                    there.add(its);
                }
            }
        }
        check.same("the tests", named, there);
    }

    /** Each method stands there with the number of its promise. */
    private void methodsAreNamed() throws IOException {
        String document = Files.readString(Path.of(DOCUMENT));
        int methods = 0;
        for (Method method : FlatPlan.class.getDeclaredMethods()) {
            if (Modifier.isPublic(method.getModifiers())) {
                Matcher promise = Pattern.compile("## Promise (\\d+): " + method.getName() + "\n").matcher(document);
                String number = promise.find() ? promise.group(1) : "no promise";
                String words = "`" + method.getName() + "` (" + number + ")";
                check.same("naming " + words, readme.contains(words), true);
                methods++;
            }
        }
        check.same("methods", methods, 59);
    }
}
