import java.io.IOException;
import java.lang.reflect.Field;
import java.lang.reflect.Modifier;
import java.nio.file.Files;
import java.nio.file.Path;
import java.util.ArrayList;
import java.util.Comparator;
import java.util.List;
import java.util.TreeSet;
import java.util.regex.Matcher;
import java.util.regex.Pattern;
import java.util.stream.Stream;

/** What README.md says is so: its program, what that prints, its commands, its calls and answers. */
public final class LinkDaysReadme {
    private static final String CI = ".ci/run";
    private static int wrong = 0;
    private static Path root;
    private static String readme;

    /** What stands between two lines of three backticks, and the word behind the first. */
    private record Block(String language, String text) { }

    private static void check(boolean good, String what) {
        if (!good) {
            wrong++;
            System.out.println("README.md: " + what);
        }
    }

    public static void main(String[] args) throws Exception {
        Path source = Path.of(System.getProperty("linkdays.source", "src/main/java/LinkDays.java")).toAbsolutePath().normalize();
        root = source.getParent().getParent().getParent().getParent();
        readme = Files.readString(root.resolve("README.md"));
        List<Block> blocks = blocks();
        program(blocks);
        calls(Files.readString(source));
        answers();
        tests();
        int commands = commands(blocks);
        System.out.println(wrong == 0 ? "README.md is so, " + commands + " blocks of commands were run" : wrong + " things are not so");
        if (wrong != 0) System.exit(1);
    }

    private static List<Block> blocks() {
        List<Block> all = new ArrayList<>();
        Matcher m = Pattern.compile("(?ms)^```(\\w*)\\n(.*?)^```$").matcher(readme);
        while (m.find()) all.add(new Block(m.group(1), m.group(2)));
        return all;
    }

    private static void program(List<Block> blocks) throws IOException {
        int programs = 0;
        for (Block b : blocks) {
            if (!b.language.equals("java")) continue;
            programs++;
            check(b.text.equals(Files.readString(root.resolve("examples/Inn.java"))), "its program is not examples/Inn.java");
        }
        check(programs == 1, programs + " programs");
    }

    /** The table has each call with its arguments, as the class names them, in the same order. */
    private static void calls(String source) {
        List<String> face = new ArrayList<>(), told = new ArrayList<>();
        Matcher m = Pattern.compile("public int (\\w+)\\(([^)]*)\\)").matcher(source);
        while (m.find()) face.add(m.group(1) + "(" + m.group(2).replaceAll("(int|long) ", "") + ")");
        m = Pattern.compile("(?m)^\\| `(\\w+\\([^`]*\\))` \\| \\S.* \\|$").matcher(readme);
        while (m.find()) told.add(m.group(1));
        check(face.size() == 28 && told.equals(face), "its calls are " + told + ", the class has " + face);
        check(readme.contains("`new LinkDays()`"), "nothing of the constructor");
    }

    private static void answers() throws IllegalAccessException {
        TreeSet<String> face = new TreeSet<>(), told = new TreeSet<>();
        for (Field f : LinkDays.class.getDeclaredFields()) {
            if (Modifier.isPublic(f.getModifiers())) face.add(f.getName() + " " + f.getInt(null));
        }
        Matcher m = Pattern.compile("(?m)^\\| `(\\w+)` (-\\d+) \\| \\S.* \\|$").matcher(readme);
        while (m.find()) told.add(m.group(1) + " " + m.group(2));
        check(told.equals(face), "its answers are " + told + ", the class has " + face);
    }

    private static void tests() throws IOException {
        TreeSet<String> there = new TreeSet<>(), told = new TreeSet<>();
        try (Stream<Path> files = Files.list(root.resolve("tests"))) {
            files.filter(f -> f.toString().endsWith(".java")).forEach(f -> there.add("tests/" + f.getFileName()));
        }
        Matcher m = Pattern.compile("(?m)^- `(tests/\\w+\\.java)`: \\S").matcher(readme);
        while (m.find()) told.add(m.group(1));
        check(told.equals(there), "its tests are " + told + ", there are " + there);
    }

    /** Each block is run as it stands, in a copy, so that nothing is left behind here. */
    private static int commands(List<Block> blocks) throws Exception {
        Path copy = Files.createTempDirectory("linkdays");
        int run = 0;
        boolean namesCi = false;
        try {
            for (String part : new String[] {"src", "examples", "tests"}) copyAll(root.resolve(part), copy.resolve("main").resolve(part));
            copyAll(root.resolveSibling("shared").resolve("tests"), copy.resolve("shared/tests"));
            for (int i = 0; i < blocks.size(); i++) {
                if (!blocks.get(i).language.equals("sh")) continue;
                String text = blocks.get(i).text;
                if (text.strip().equals(CI)) {
                    // It is what runs this test: to run it from here would have no end.
                    check(Files.isExecutable(root.resolve(CI)), CI + " can't be run");
                    namesCi = true;
                    continue;
                }
                check(!text.contains(CI) && !text.contains("LinkDaysReadme"), "a command would run this test: " + text);
                String due = i + 1 < blocks.size() && blocks.get(i + 1).language.equals("text") ? blocks.get(i + 1).text : null;
                runBlock(text, copy.resolve("main"), due);
                run++;
            }
        } finally {
            deleteAll(copy);
        }
        check(namesCi && run > 0, "it doesn't say how tests are run");
        return run;
    }

    private static void runBlock(String text, Path where, String due) throws Exception {
        Process p = new ProcessBuilder("sh", "-e", "-c", text).directory(where.toFile()).redirectErrorStream(true).start();
        p.getOutputStream().close();
        String printed = new String(p.getInputStream().readAllBytes());
        int code = p.waitFor();
        check(code == 0, "ends with " + code + ":\n" + text + printed);
        if (due != null) check(printed.equals(due), "what is printed is not what it says:\n" + printed);
    }

    private static void copyAll(Path from, Path to) throws IOException {
        try (Stream<Path> files = Files.walk(from)) {
            for (Path f : (Iterable<Path>) files::iterator) {
                Path target = to.resolve(from.relativize(f).toString());
                if (Files.isDirectory(f)) Files.createDirectories(target);
                else Files.write(target, Files.readAllBytes(f));
            }
        }
    }

    private static void deleteAll(Path all) throws IOException {
        try (Stream<Path> files = Files.walk(all)) {
            for (Path f : (Iterable<Path>) files.sorted(Comparator.reverseOrder())::iterator) Files.delete(f);
        }
    }
}
