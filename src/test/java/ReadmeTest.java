import java.io.File;
import java.io.IOException;
import java.lang.reflect.Method;
import java.lang.reflect.Modifier;
import java.nio.file.Files;
import java.nio.file.Path;
import java.util.ArrayList;
import java.util.Comparator;
import java.util.List;
import java.util.regex.Matcher;
import java.util.regex.Pattern;
import java.util.stream.Stream;

/** README.md holds: its example prints what it says, its commands run, each call and each test is named. */
public final class ReadmeTest {
    private static final Path TESTS = Path.of("src/test/java");
    private static final Told TOLD = new Told();

    /** What stands between ```kind and ``` of the page, each by itself. */
    private static List<String> blocks(String page, String kind) {
        List<String> blocks = new ArrayList<>();
        Matcher m = Pattern.compile("(?ms)^```" + kind + "\\n(.*?)^```$").matcher(page);
        while (m.find()) {
            blocks.add(m.group(1));
        }
        return blocks;
    }

    private static void calls(String page) {
        for (Method method : OwnedSilence.class.getDeclaredMethods()) {
            if (Modifier.isPublic(method.getModifiers())) {
                TOLD.due("the page names " + method.getName(), page.contains("`" + method.getName() + "`"), true);
            }
        }
    }

    private static void tests(String page) {
        File[] files = TESTS.toFile().listFiles((where, name) -> name.endsWith(".java"));
        for (File file : files == null ? new File[0] : files) {
            String name = file.getName().replace(".java", "");
            TOLD.due("the page names " + name, page.contains("`" + name + "`"), true);
        }
        Matcher m = Pattern.compile("\\w+Test\\b").matcher(page);
        while (m.find()) {
            TOLD.due("there is a " + m.group(), Files.exists(TESTS.resolve(m.group() + ".java")), true);
        }
    }

    /** Each line of the grammar stands in the table of lines. */
    private static void lines(String page) {
        for (String line : List.of("place W", "link W W N", "owner W N", "heir W W", "noise W W N N N", "claim W W N N",
                "right W W N N", "task W W N N", "dog W N", "wall N", "fine N", "seed N", "law fade E", "law worth E")) {
            TOLD.due("the page tells of " + line, page.contains("`" + line + "`"), true);
        }
    }

    /** Runs the page's commands, but for the one that runs this test; what each block's last one prints. */
    private static List<String> run(String page, Path room) throws Exception {
        Files.writeString(room.resolve("Example.java"), blocks(page, "java").get(0));
        List<String> printed = new ArrayList<>();
        for (String block : blocks(page, "sh")) {
            String last = "";
            for (String command : block.split("\\n")) {
                if (!command.equals("bash .ci/run")) {
                    last = printedBy(command.replace("/tmp", room.toString())
                            .replace(" Example.java", " " + room.resolve("Example.java")));
                }
            }
            printed.add(last);
        }
        return printed;
    }

    private static String printedBy(String command) throws IOException, InterruptedException {
        // What java says of its surroundings goes to the error stream and isn't the example's.
        Process process = new ProcessBuilder("sh", "-c", command).redirectError(ProcessBuilder.Redirect.INHERIT).start();
        process.getOutputStream().close();
        String printed = new String(process.getInputStream().readAllBytes());
        int ended = process.waitFor();
        TOLD.due("the exit code of " + command, ended, 0);
        if (ended != 0) {
            System.out.println(printed);
        }
        return printed;
    }

    private static void commands(String page) throws Exception {
        Path room = Files.createTempDirectory("readme");
        try {
            List<String> printed = run(page, room);
            TOLD.due("blocks of commands", printed.size(), 4);
            // The first block of text is the directory's tree, the second one what the example prints.
            String wanted = blocks(page, "text").get(1);
            if (!printed.get(0).equals(wanted)) {
                System.out.println(printed.get(0));
            }
            TOLD.due("the example prints what the page says", printed.get(0).equals(wanted), true);
        } finally {
            try (Stream<Path> all = Files.walk(room)) {
                all.sorted(Comparator.reverseOrder()).forEach(path -> path.toFile().delete());
            }
        }
    }

    public static void main(String[] args) throws Exception {
        String page = Files.readString(Path.of("README.md"));
        calls(page);
        tests(page);
        lines(page);
        commands(page);
        TOLD.end();
    }
}
