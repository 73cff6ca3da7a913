import java.io.IOException;
import java.lang.reflect.Method;
import java.lang.reflect.Modifier;
import java.nio.file.Files;
import java.nio.file.Path;
import java.util.ArrayList;
import java.util.List;
import java.util.regex.Matcher;
import java.util.regex.Pattern;

/** README.md by its word: its example prints what it says, its commands work, and it names every call. */
public final class ReadmeTest {
    private static final String FOLDER = "/tmp/mice";
    private static final Check check = new Check();

    public static void main(String[] args) throws Exception {
        String page = Files.readString(Path.of("README.md"));
        Path work = Files.createTempDirectory("readme");
        try {
            commands(page, work);
        } finally {
            clear(work);
        }
        calls(page);
        texts(page);
        check.end();
    }

    private static List<String> blocks(String page, String kind) {
        List<String> found = new ArrayList<>();
        Matcher m = Pattern.compile("(?s)```" + kind + "\n(.*?)```").matcher(page);
        while (m.find()) {
            found.add(m.group(1));
        }
        return found;
    }

    /** .ci/run itself is left out: it runs this test. */
    private static void commands(String page, Path work) throws Exception {
        check.about("a command of README.md");
        Files.writeString(work.resolve("Example.java"), blocks(page, "java").get(0));
        int done = 0;
        for (String block : blocks(page, "sh")) {
            for (String command : block.split("\n")) {
                if (command.equals("bash .ci/run")) {
                    check.due(command + " can be run", Files.isReadable(Path.of(".ci/run")), true);
                    continue;
                }
                String printed = printedBy(command.replace(FOLDER, work.toString()), command, work);
                if (command.endsWith(" Example")) {
                    sameLines(printed, blocks(page, "text").get(0));
                }
                done++;
            }
        }
        check.due("commands", done, 6);
    }

    private static String printedBy(String command, String shown, Path work) throws Exception {
        Path out = work.resolve("out.txt");
        Process process = new ProcessBuilder(command.split(" ")).redirectErrorStream(true)
            .redirectOutput(out.toFile()).start();
        check.due(shown + " ends with", process.waitFor(), 0);
        return Files.readString(out);
    }

    private static void sameLines(String printed, String told) {
        String[] are = printed.split("\r?\n");
        String[] should = told.split("\n");
        check.due("lines that the example prints", are.length, should.length);
        for (int i = 0; i < Math.min(are.length, should.length); i++) {
            check.due("the example prints " + are[i] + " where README.md says " + should[i],
                are[i].equals(should[i]), true);
        }
    }

    private static void calls(String page) {
        check.about("README.md names");
        for (Method m : MiceEngine.class.getDeclaredMethods()) {
            if (Modifier.isPublic(m.getModifiers())) {
                String call = "`" + m.getName() + "[`(]";
                check.due(m.getName(), Pattern.compile(call).matcher(page).find(), true);
            }
        }
        check.due("NONE", page.contains("`NONE` (" + MiceEngine.NONE + ")"), true);
    }

    /** The text that shows the grammar must be one that is read. */
    private static void texts(String page) {
        check.about("a text of README.md");
        MiceEngine x = new MiceEngine();
        Check.feed(x, blocks(page, "text").get(1));
        check.due("read()", x.read(), 0);
        check.due("ROWS", x.count(0), 2);
        check.due("TRIALS", x.count(1), 2);
        check.due("the called row and its own number", x.out(1, 0, 0, 2), -7);
    }

    private static void clear(Path folder) throws IOException {
        try (var files = Files.walk(folder)) {
            for (Path p : files.sorted(java.util.Comparator.reverseOrder()).toList()) {
                Files.delete(p);
            }
        }
    }
}
