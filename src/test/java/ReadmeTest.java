import java.io.IOException;
import java.lang.reflect.Method;
import java.lang.reflect.Modifier;
import java.nio.charset.StandardCharsets;
import java.nio.file.Files;
import java.nio.file.Path;
import java.util.ArrayList;
import java.util.Comparator;
import java.util.List;
import java.util.regex.Matcher;
import java.util.regex.Pattern;
import java.util.stream.Stream;

/**
 * What README.md says works as it is written: its programs and commands are carried out in a copy of the project, and
 * what it says that they write is compared; it names each call of the face and each file of the tests.
 */
public final class ReadmeTest {
    private static final Path README = Path.of("README.md");
    private static final Path SHARED = Path.of("../shared");
    private static final String ALL_TESTS = ".ci/run";
    private static final Pattern BLOCK = Pattern.compile("^```(\\w+)\n(.*?)^```$", Pattern.MULTILINE | Pattern.DOTALL);
    private static final Pattern PROGRAM = Pattern.compile("public final class (\\w+)");
    private static final Pattern QUOTED = Pattern.compile("`([^`\n]+)`");

    private static int asked = 0;
    private static int wrong = 0;

    public static void main(String[] args) throws Exception {
        String text = Files.readString(README);
        Path room = Files.createTempDirectory("readme");
        try {
            carryOut(blocksOf(text), copyOfProject(room), text);
        } finally {
            remove(room);
        }
        namesEachCall(text);
        namesEachTest(text);
        namesWhatExists(text);
        System.out.println(asked + " questions, " + wrong + " answers are not as due");
        if (wrong != 0) {
            System.exit(1);
        }
    }

    private static void due(String complaint, boolean holds) {
        asked++;
        if (!holds) {
            wrong++;
            System.out.println("README.md: " + complaint);
        }
    }

    /** Each block as its language and its text. */
    private static List<String[]> blocksOf(String text) {
        List<String[]> blocks = new ArrayList<>();
        Matcher matcher = BLOCK.matcher(text);
        while (matcher.find()) {
            blocks.add(new String[] {matcher.group(1), matcher.group(2)});
        }
        return blocks;
    }

    private static Path copyOfProject(Path room) throws IOException {
        Path project = Files.createDirectory(room.resolve("project"));
        try (Stream<Path> files = Files.walk(Path.of("src"))) {
            for (Path file : files.toList()) {
                Files.copy(file, project.resolve(file));
            }
        }
        Files.createSymbolicLink(room.resolve("shared"), SHARED.toRealPath());
        return project;
    }

    private static void remove(Path room) throws IOException {
        try (Stream<Path> files = Files.walk(room)) {
            for (Path file : files.sorted(Comparator.reverseOrder()).toList()) {
                Files.delete(file);
            }
        }
    }

    private static void carryOut(List<String[]> blocks, Path project, String text) throws Exception {
        int programs = 0;
        int commands = 0;
        String written = "";
        for (String[] block : blocks) {
            switch (block[0]) {
                case "java":
                    programs++;
                    save(block[1], project, text);
                    break;
                case "sh":
                    commands++;
                    written = run(block[1], project);
                    break;
                case "text":
                    due("what is written is not\n" + block[1] + "but\n" + written, written.equals(block[1]));
                    break;
                default:
                    due("there is a block of " + block[0], false);
            }
        }
        due("it has an example and the commands to run it and the tests", programs > 0 && commands >= 3);
    }

    private static void save(String program, Path project, String text) throws IOException {
        Matcher name = PROGRAM.matcher(program);
        boolean found = name.find();
        due("a program has no class", found);
        if (found) {
            String file = name.group(1) + ".java";
            due("it does not say that the program is saved as " + file, text.contains("`" + file + "`"));
            Files.writeString(project.resolve(file), program);
        }
    }

    /** What the commands write. The command for all tests is what runs this one: it is only looked at. */
    private static String run(String commands, Path project) throws Exception {
        if (commands.trim().equals(ALL_TESTS)) {
            due(ALL_TESTS + " cannot be run", Files.isExecutable(Path.of(ALL_TESTS)));
            return "";
        }
        Process process = new ProcessBuilder("sh", "-e", "-c", commands)
            .directory(project.toFile()).redirectErrorStream(true).start();
        process.getOutputStream().close();
        String written = new String(process.getInputStream().readAllBytes(), StandardCharsets.UTF_8);
        int code = process.waitFor();
        due("these commands end with exit code " + code + ":\n" + commands + written, code == 0);
        return written;
    }

    private static void namesEachCall(String text) {
        int at = 0;
        for (String call : callsInOrder()) {
            int found = text.indexOf("| `" + call + "(");
            due("it does not name " + call + " in its order", found > at);
            at = Math.max(at, found);
        }
    }

    /** The calls in the order in which the class has them. */
    private static List<String> callsInOrder() {
        List<String> calls = new ArrayList<>();
        try {
            Matcher matcher = Pattern.compile("^    public (?:int|long|boolean) (\\w+)\\(", Pattern.MULTILINE)
                .matcher(Files.readString(Path.of("src/main/java/SafetyProver.java")));
            while (matcher.find()) {
                calls.add(matcher.group(1));
            }
        } catch (IOException e) {
            due("the class cannot be read", false);
        }
        int methods = 0;
        for (Method method : SafetyProver.class.getDeclaredMethods()) {
            methods += Modifier.isPublic(method.getModifiers()) ? 1 : 0;
        }
        due("the calls are " + calls, calls.size() == methods);
        return calls;
    }

    private static void namesEachTest(String text) throws IOException {
        for (String directory : new String[] {"src/test/java", "src/test/support"}) {
            try (Stream<Path> files = Files.list(Path.of(directory))) {
                for (Path file : files.toList()) {
                    String name = file.getFileName().toString().replace(".java", "");
                    due("it does not name " + name, text.contains("`" + name + "`"));
                }
            }
        }
    }

    /** Each path that it names is there. */
    private static void namesWhatExists(String text) {
        Matcher matcher = QUOTED.matcher(text);
        while (matcher.find()) {
            String name = matcher.group(1);
            boolean isPath = name.contains("/") && name.matches("[\\w./-]+");
            due("there is no " + name, !isPath || Files.exists(Path.of(name)));
            boolean isTest = name.matches("\\w+Test");
            due("there is no test " + name, !isTest || Files.exists(Path.of("src/test/java/" + name + ".java")));
        }
    }
}
