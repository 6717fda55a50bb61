import java.io.File;
import java.io.IOException;
import java.net.URL;
import java.net.URLClassLoader;
import java.nio.file.Files;
import java.nio.file.Path;
import java.util.ArrayList;
import java.util.List;
import java.util.regex.Matcher;
import java.util.regex.Pattern;
import java.util.spi.ToolProvider;

/** Compiles what README.md shows, runs it, and holds the answers against those that stand behind the calls. */
public final class ReadmeTest {
    private static final Pattern BLOCK = Pattern.compile("```java\n(.*?)```", Pattern.DOTALL);
    private static final Pattern CALL = Pattern.compile("(.*); +// (-?\\d+|true|false)(?: \\(NONE\\))?: .+", Pattern.DOTALL);

    public static void main(String[] args) throws Exception {
        Path root = Path.of(System.getProperty("project.root", "."));
        String page = Files.readString(root.resolve("README.md"));
        List<String> blocks = new ArrayList<>();
        Matcher block = BLOCK.matcher(page);
        while (block.find()) {
            blocks.add(block.group(1));
        }
        Check.promise = "README.md";
        Check.due("blocks of Java", blocks.size(), 2);
        List<String> calls = new ArrayList<>();
        List<String> answers = new ArrayList<>();
        readRun(blocks.get(1), calls, answers);
        Check.due("a run of calls", calls.size() > 20, true);
        String[] got = answersOf(source(blocks.get(0), calls));
        for (int i = 0; i < calls.size(); i++) {
            String call = calls.get(i).replaceAll("\\s+", " ");
            Check.due(call + " answered " + got[i] + ", not " + answers.get(i) + ": so", got[i].equals(answers.get(i)), true);
        }
        wordsOfThePage(page);
        Check.end();
    }

    /** Each call of the run, which may go over some lines, and the answer that stands behind it. */
    private static void readRun(String run, List<String> calls, List<String> answers) {
        String statement = "";
        for (String line : run.split("\n")) {
            String bare = line.trim();
            if (bare.isEmpty() || bare.startsWith("//") || bare.equals("BoneEstate estate = new BoneEstate();")) {
                continue;
            }
            statement += bare;
            Matcher call = CALL.matcher(statement);
            if (call.matches()) {
                calls.add(call.group(1));
                answers.add(call.group(2));
                statement = "";
            }
        }
        Check.due("each call has its answer: '" + statement + "' has", statement.isEmpty(), true);
    }

    private static String source(String helper, List<String> calls) {
        StringBuilder s = new StringBuilder("public final class Readme {\n" + helper
                + "\npublic static String[] run() {\nBoneEstate estate = new BoneEstate();\nString[] got = new String["
                + calls.size() + "];\n");
        for (int i = 0; i < calls.size(); i++) {
            s.append("got[" + i + "] = String.valueOf(" + calls.get(i) + ");\n");
        }
        return s.append("return got;\n}\n}\n").toString();
    }

    private static String[] answersOf(String source) throws Exception {
        Path out = Files.createTempDirectory("readme");
        try {
            Path file = Files.writeString(out.resolve("Readme.java"), source);
            int failed = ToolProvider.findFirst("javac").orElseThrow().run(System.out, System.out,
                    "-cp", System.getProperty("java.class.path"), "-d", out.toString(), file.toString());
            if (failed != 0) {
                throw new IllegalStateException("what README.md shows can't be compiled");
            }
            try (URLClassLoader loader = new URLClassLoader(new URL[] {out.toUri().toURL()})) {
                return (String[]) loader.loadClass("Readme").getMethod("run").invoke(null);
            }
        } finally {
            delete(out);
        }
    }

    private static void delete(Path directory) throws IOException {
        File[] files = directory.toFile().listFiles();
        for (File file : files == null ? new File[0] : files) {
            Files.delete(file.toPath());
        }
        Files.delete(directory);
    }

    /** What the page must tell of: the answers that aren't numbers of something, the exceptions, how tests are run. */
    private static void wordsOfThePage(String page) {
        String[] words = {"NONE", "-2", "-3", "IndexOutOfBoundsException", "NoSuchElementException", "Long.MIN_VALUE",
            ".ci/run", "`javac`", "`java`", "../shared/DOC.md", "../shared/LANGUAGE.md", "../shared/tests"};
        for (String word : words) {
            Check.due("tells of " + word, page.contains(word), true);
        }
    }
}
