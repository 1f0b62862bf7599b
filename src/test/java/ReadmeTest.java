import java.io.IOException;
import java.nio.file.Files;
import java.nio.file.Path;
import java.util.ArrayList;
import java.util.Comparator;
import java.util.HashSet;
import java.util.List;
import java.util.Set;
import java.util.TreeSet;
import java.util.regex.Matcher;
import java.util.regex.Pattern;

/** README.md followed word for word, in a copy of the checkout, and the names in it. */
public final class ReadmeTest {
    /** What stands between two lines of three signs, its sort, and the text ahead of it. */
    private record Block(String ahead, String sort, String body) { }

    private static final Path README = Path.of("README.md");
    private static final Path SHARED = Path.of("../shared");
    /** It runs this test; that it can be run is looked at, and no more. */
    private static final String ALL_TESTS = ".ci/run";

    private static int wrong = 0;

    private static void check(boolean holds, String text) {
        if (!holds) {
            wrong++;
            System.out.println("README.md: " + text);
        }
    }

    private static List<Block> blocks(List<String> lines) {
        List<Block> blocks = new ArrayList<>();
        StringBuilder ahead = new StringBuilder();
        StringBuilder body = new StringBuilder();
        String sort = null;
        for (String line : lines) {
            boolean isFence = line.startsWith("```");
            if (isFence && sort == null) {
                sort = line.substring(3);
            } else if (isFence) {
                blocks.add(new Block(ahead.toString(), sort, body.toString()));
                ahead.setLength(0);
                body.setLength(0);
                sort = null;
            } else {
                (sort == null ? ahead : body).append(line).append('\n');
            }
        }
        check(sort == null, "a block has no end");
        return blocks;
    }

    // ---- the commands ----

    private static void copyAll(Path from, Path to) throws IOException {
        List<Path> files;
        try (java.util.stream.Stream<Path> found = Files.walk(from)) {
            files = found.filter(Files::isRegularFile).toList();
        }
        for (Path file : files) {
            Path copy = to.resolve(from.relativize(file).toString());
            Files.createDirectories(copy.getParent());
            Files.copy(file, copy);
        }
    }

    private static void removeAll(Path top) throws IOException {
        List<Path> found;
        try (java.util.stream.Stream<Path> all = Files.walk(top)) {
            found = all.sorted(Comparator.reverseOrder()).toList();
        }
        for (Path path : found) {
            Files.delete(path);
        }
    }

    private static String run(String commands, Path where) throws IOException, InterruptedException {
        Process process = new ProcessBuilder("sh", "-e", "-c", commands)
            .directory(where.toFile()).redirectErrorStream(true).start();
        process.getOutputStream().close();
        String printed = new String(process.getInputStream().readAllBytes(), java.nio.charset.StandardCharsets.UTF_8);
        int code = process.waitFor();
        check(code == 0, "exit code " + code + " of\n" + commands + printed);
        return printed;
    }

    private static void save(Block block, Path where) throws IOException {
        Matcher name = Pattern.compile("Save this as `([^`/]+)`").matcher(block.ahead);
        boolean isNamed = name.find();
        check(isNamed, "nothing says as what to save\n" + block.body);
        if (isNamed) {
            Files.writeString(where.resolve(name.group(1)), block.body);
        }
    }

    /** How many blocks of commands were run; each that prints must be followed by what it prints. */
    private static int follow(List<Block> blocks, Path where) throws IOException, InterruptedException {
        int runs = 0;
        String printed = "";
        for (Block block : blocks) {
            if (block.sort.equals("text")) {
                check(printed.equals(block.body), "it says\n" + block.body + "and printed is\n" + printed);
                printed = "";
                continue;
            }
            check(printed.isEmpty(), "it doesn't say that it prints\n" + printed);
            printed = "";
            if (block.sort.equals("java")) {
                save(block, where);
            } else if (block.sort.equals("sh") && !block.body.equals(ALL_TESTS + "\n")) {
                printed = run(block.body, where);
                runs++;
            } else {
                check(block.sort.equals("sh"), "a block of sort " + block.sort);
                check(Files.isExecutable(Path.of(ALL_TESTS)), ALL_TESTS + " can't be run");
            }
        }
        check(printed.isEmpty(), "it doesn't say that it prints\n" + printed);
        return runs;
    }

    private static void followInCopy(List<Block> blocks) throws IOException, InterruptedException {
        Path top = Files.createTempDirectory("readme");
        try {
            Path checkout = Files.createDirectory(top.resolve("checkout"));
            copyAll(SHARED, top.resolve("shared"));
            copyAll(Path.of("src"), checkout.resolve("src"));
            check(follow(blocks, checkout) >= 4, "fewer commands than there were");
        } finally {
            removeAll(top);
        }
    }

    // ---- the names ----

    /** What stands in single signs, but for the blocks. */
    private static Set<String> names(List<Block> blocks, String text) {
        String left = text;
        for (Block block : blocks) {
            left = left.replace("```" + block.sort + "\n" + block.body + "```", "");
        }
        Set<String> names = new TreeSet<>();
        Matcher name = Pattern.compile("`([^`\n]+)`").matcher(left);
        while (name.find()) {
            names.add(name.group(1));
        }
        return names;
    }

    private static void checkNames(Set<String> names) throws IOException {
        Set<String> calls = new HashSet<>();
        for (java.lang.reflect.Method method : LeapingPassages.class.getDeclaredMethods()) {
            if (java.lang.reflect.Modifier.isPublic(method.getModifiers())) {
                calls.add(method.getName());
                check(names.contains(method.getName()), "there is nothing of the call " + method.getName());
            }
        }
        Set<String> tests = new HashSet<>();
        try (java.util.stream.Stream<Path> files = Files.list(Path.of("src/test/java"))) {
            files.forEach(file -> tests.add(file.getFileName().toString().replace(".java", "")));
        }
        for (String test : tests) {
            boolean isRun = test.endsWith("Test") || test.startsWith("EdgesOf") || test.equals("EdgesBeside");
            check(!isRun || names.contains(test), "there is nothing of " + test);
        }
        Set<String> others = Set.of("Example.java", "DOC.md", "LANGUAGE.md", "N passed, N failed", "sh", "javac", "java", "Test");
        for (String name : names) {
            boolean isCall = calls.contains(name.replaceAll("\\(\\d+\\)$", ""));
            boolean isThere = isCall || tests.contains(name) || others.contains(name) || Files.exists(Path.of(name));
            check(isThere, "there is no " + name);
        }
    }

    public static void main(String[] args) throws IOException, InterruptedException {
        List<String> lines = Files.readAllLines(README);
        List<Block> blocks = blocks(lines);
        followInCopy(blocks);
        checkNames(names(blocks, String.join("\n", lines)));
        System.out.println(wrong == 0 ? "README.md can be followed word for word" : wrong + " faults");
        if (wrong != 0) {
            System.exit(1);
        }
    }
}
