import java.io.IOException;
import java.nio.file.Files;
import java.nio.file.Path;
import java.util.ArrayList;
import java.util.Comparator;
import java.util.List;
import java.util.TreeSet;
import java.util.regex.Matcher;
import java.util.regex.Pattern;
import java.util.stream.Stream;

/** What README.md says: its example, its lists, and its commands, each run as it stands there. */
public final class ReadmeTest {
    /** The command that runs this test; it can't be run by it. */
    private static final String ALL_TESTS = ".ci/run\n";
    private static final Pattern BLOCK = Pattern.compile("(?ms)^```(\\w+)\n(.*?)^```$");

    private record Block(String kind, String text) {
    }

    /** How commands ended, with all that they printed, but for what they told as errors. */
    private record Ended(int code, String output) {
    }

    private ReadmeTest() {
    }

    public static void main(String[] args) throws IOException {
        Check.choose(args);
        String readme = Files.readString(Path.of("README.md"));
        List<Block> blocks = blocks(readme);
        Check.edge("README.md, the example is that of src/example", () -> example(blocks));
        Check.edge("README.md, each test is told of", () -> tests(readme));
        Check.edge("README.md, all tests", () -> allTests(blocks));
        Path checkout = checkout();
        for (int i = 0; i < blocks.size(); i++) {
            Block block = blocks.get(i);
            if (block.kind().equals("sh") && !block.text().equals(ALL_TESTS)) {
                Block next = blocks.get(Math.min(i + 1, blocks.size() - 1));
                Check.edge("README.md, " + block.text().strip().replace("\n", "; "),
                    () -> commands(checkout, block, next));
            }
        }
        delete(checkout.getParent());
        Check.end("ReadmeTest");
    }

    private static List<Block> blocks(String readme) {
        List<Block> blocks = new ArrayList<>();
        Matcher matcher = BLOCK.matcher(readme);
        while (matcher.find()) {
            blocks.add(new Block(matcher.group(1), matcher.group(2)));
        }
        return blocks;
    }

    private static void example(List<Block> blocks) {
        int examples = 0;
        for (Block block : blocks) {
            if (block.kind().equals("java")) {
                examples++;
                Check.same("the example", block.text(),
                    read(Path.of("src/example/java/Example.java")));
            }
        }
        Check.same("examples", examples, 1);
    }

    private static String read(Path file) {
        try {
            return Files.readString(file);
        } catch (IOException e) {
            throw new IllegalStateException(e);
        }
    }

    private static void tests(String readme) {
        TreeSet<String> told = new TreeSet<>();
        Matcher matcher = Pattern.compile("(?<!\\*)\\b[A-Z]\\w*Test\\b").matcher(readme);
        while (matcher.find()) {
            told.add(matcher.group());
        }
        TreeSet<String> due = new TreeSet<>();
        for (String file : new java.io.File("src/test/java").list()) {
            if (file.endsWith("Test.java")) {
                due.add(file.substring(0, file.length() - ".java".length()));
            }
        }
        Check.same("tests told of", told.toString(), due.toString());
    }

    private static void allTests(List<Block> blocks) {
        Check.same("the command for all tests", blocks.contains(new Block("sh", ALL_TESTS)), true);
        Check.same(".ci/run is executable", Files.isExecutable(Path.of(".ci/run")), true);
    }

    /** A copy of the sources with shared beside it, so that commands leave this one clean. */
    private static Path checkout() throws IOException {
        Path checkout = Files.createTempDirectory("readme").resolve("checkout");
        Files.createDirectory(checkout);
        Files.createSymbolicLink(checkout.resolveSibling("shared"),
            Path.of("../shared").toRealPath());
        try (Stream<Path> files = Files.walk(Path.of("src"))) {
            for (Path file : files.toList()) {
                Files.copy(file, checkout.resolve(file.toString()));
            }
        }
        return checkout;
    }

    private static void delete(Path directory) throws IOException {
        if (!Files.exists(directory)) {
            return;
        }
        try (Stream<Path> files = Files.walk(directory)) {
            for (Path file : files.sorted(Comparator.reverseOrder()).toList()) {
                Files.delete(file);
            }
        }
    }

    /** Runs the commands of a block; a text block behind them is what they must print. */
    private static void commands(Path checkout, Block block, Block next) {
        try {
            delete(checkout.resolve("out"));
            Ended ended = run(checkout, block.text());
            Check.same("exit code", ended.code(), 0);
            if (ended.code() != 0) {
                System.out.print(ended.output());
            }
            if (next.kind().equals("text")) {
                Check.same("output", ended.output(), next.text());
            }
        } catch (IOException | InterruptedException e) {
            throw new IllegalStateException(e);
        }
    }

    private static Ended run(Path directory, String commands)
            throws IOException, InterruptedException {
        Process process = new ProcessBuilder("sh", "-e", "-c", commands)
            .directory(directory.toFile())
            .redirectError(ProcessBuilder.Redirect.INHERIT).start();
        process.getOutputStream().close();
        String output = new String(process.getInputStream().readAllBytes());
        return new Ended(process.waitFor(), output);
    }
}
