import java.lang.reflect.Constructor;
import java.lang.reflect.Field;
import java.lang.reflect.Method;
import java.lang.reflect.Modifier;
import java.nio.file.Files;
import java.nio.file.Path;
import java.util.ArrayList;
import java.util.HashSet;
import java.util.List;
import java.util.Random;
import java.util.Set;
import java.util.regex.Matcher;
import java.util.regex.Pattern;
import java.util.stream.Stream;

/**
 * The document as a whole: its face as it is written there, its examples as they are written there, what it does not
 * promise, and that there are tests for each of its sections.
 */
public final class DocumentTest {
    private static final int PROMISED_CALLS = 512;
    private static final int CALLS_FAR_BEYOND = 6000;
    private static final String CLASS_TEXT = "src/main/java/SafetyProver.java";
    private static final Pattern EXAMPLE = Pattern.compile("[1-9]\\. .*: (.*)\\.");
    private static final Pattern GROUP = Pattern.compile("Ahead of the calls (.*) the interface says: (----.*)\\.");
    private static final Set<String> ALLOWED =
        Set.of("IllegalStateException", "IllegalArgumentException", "IndexOutOfBoundsException");

    private static Sentences document;

    public static void main(String[] args) throws Exception {
        document = new Sentences();
        theHeadings();
        theFace();
        theGroups();
        theExamples();
        whatIsNotPromised();
        document.finish();
    }

    /** Each section of the document is opened by a test. */
    private static void theHeadings() throws Exception {
        StringBuilder tests = new StringBuilder();
        try (Stream<Path> files = Files.list(Path.of("src/test/java"))) {
            for (Path file : files.toList()) {
                tests.append(Files.readString(file));
            }
        }
        for (String heading : document.headings()) {
            document.holds("there are no tests for the section " + heading,
                tests.indexOf("section(\"" + heading + "\")") >= 0);
        }
        document.holds("the document has 29 promises",
            document.headings().stream().filter(heading -> heading.startsWith("Promise ")).count() == 29);
    }

    /** The lines of the face are those of the class, no more and no fewer. */
    private static void theFace() throws Exception {
        document.section("The public face");
        Set<String> members = membersOfClass();
        for (String line : document.sentencesOf("The public face")) {
            document.says(line);
            String member = line.trim();
            document.holds("the class has no " + member, member.equals("}") || members.remove(member));
        }
        document.holds("the class has more than the document: " + members, members.isEmpty());
    }

    /** All that others can see of the class, without the names of parameters, which the class's text is asked for. */
    private static Set<String> membersOfClass() throws Exception {
        Set<String> members = new HashSet<>();
        String text = Files.readString(Path.of(CLASS_TEXT)).replaceAll("\\s+", " ");
        members.add(Modifier.toString(SafetyProver.class.getModifiers()) + " class SafetyProver {");
        for (Field field : SafetyProver.class.getDeclaredFields()) {
            if (!Modifier.isPrivate(field.getModifiers())) {
                members.add(Modifier.toString(field.getModifiers()) + " " + field.getType() + " " + field.getName() + " = "
                    + field.get(null) + ";");
            }
        }
        for (Constructor<?> constructor : SafetyProver.class.getDeclaredConstructors()) {
            members.add(headIn(text, Modifier.toString(constructor.getModifiers()) + " SafetyProver("));
        }
        for (Method method : SafetyProver.class.getDeclaredMethods()) {
            if (!Modifier.isPrivate(method.getModifiers())) {
                members.add(headIn(text, Modifier.toString(method.getModifiers()) + " " + method.getReturnType() + " "
                    + method.getName() + "("));
            }
        }
        return members;
    }

    private static String headIn(String text, String begin) {
        int from = text.indexOf(begin);
        return from < 0 ? begin : text.substring(from, text.indexOf(" {", from)) + ";";
    }

    /** The class has the calls in the groups of the document, each behind the line that the document names. */
    private static void theGroups() throws Exception {
        String text = Files.readString(Path.of(CLASS_TEXT));
        int at = 0;
        int groups = 0;
        for (String line : Sentences.lines()) {
            Matcher group = GROUP.matcher(line);
            if (group.matches()) {
                groups++;
                at = follows(text, "// " + group.group(2) + "\n", at);
                for (String call : group.group(1).split(", ")) {
                    at = follows(text, " " + call.replace("`", "") + "(", at);
                }
            }
        }
        document.holds("the document has five groups of calls", groups == 5);
    }

    private static int follows(String text, String piece, int at) {
        int found = text.indexOf(piece, at);
        document.holds("there is no " + piece.trim() + " behind the one before it", found >= 0);
        return Math.max(at, found);
    }

    private static void theExamples() throws Exception {
        int examples = 0;
        for (String line : Sentences.lines()) {
            Matcher example = EXAMPLE.matcher(line);
            if (example.matches()) {
                examples++;
                document.holds(example.group(1));
            }
        }
        document.holds("the document has four examples", examples == 4);
    }

    private static void whatIsNotPromised() throws Exception {
        document.section("Not promised");
        document.says("How the state is held inside the object is free, as are the speed of each call, the text of toString and the "
            + "behaviour of equals and hashCode.");
        SafetyProver one = drawn(1, PROMISED_CALLS, null);
        SafetyProver other = drawn(1, PROMISED_CALLS, null);
        document.holds("the same calls have other answers on another object", one.digest() == other.digest());
        document.says("Use of one object from several threads at once is not promised to be safe.");
        document.holds("objects that are used in turn disturb one another", answersInTurn());
        document.holds("objects of several threads disturb one another", answersOfThreads());
        document.says("Nothing is promised beyond the answers and state changes described above, and nothing about an object after "
            + "its 512th call.");
        document.holds("'!b'; setProperty() = 2; prove() = 0;" + "proof(2) = 1;".repeat(PROMISED_CALLS - 5) + "certificate() = 3");
        // Nothing but what the document names may reach the caller, however long an object is used.
        for (int seed = 0; seed < 20; seed++) {
            List<String> answers = new ArrayList<>();
            drawn(seed, CALLS_FAR_BEYOND, answers);
            document.holds("a call threw by itself: " + answers, answers.stream().allMatch(
                answer -> !answer.contains("throws ") || ALLOWED.contains(answer.substring(answer.indexOf("throws ") + 7))));
        }
    }

    /** Two objects whose calls come in turn, beside the same calls on objects that are alone. */
    private static boolean answersInTurn() {
        List<String> alone = new ArrayList<>();
        List<String> inTurn = new ArrayList<>();
        drawn(3, PROMISED_CALLS, alone);
        Random first = new Random(3);
        Random second = new Random(4);
        SafetyProver one = new SafetyProver();
        SafetyProver other = new SafetyProver();
        for (int call = 0; call < PROMISED_CALLS; call++) {
            inTurn.add(drawnCall(one, first));
            drawnCall(other, second);
        }
        return alone.equals(inTurn);
    }

    private static boolean answersOfThreads() throws InterruptedException {
        List<List<String>> found = new ArrayList<>();
        List<Thread> threads = new ArrayList<>();
        for (int seed = 0; seed < 8; seed++) {
            List<String> answers = new ArrayList<>();
            found.add(answers);
            int drawnFrom = seed;
            threads.add(new Thread(() -> drawn(drawnFrom, PROMISED_CALLS, answers)));
        }
        for (Thread thread : threads) {
            thread.start();
        }
        for (Thread thread : threads) {
            thread.join();
        }
        boolean same = true;
        for (int seed = 0; seed < found.size(); seed++) {
            List<String> alone = new ArrayList<>();
            drawn(seed, PROMISED_CALLS, alone);
            same &= alone.equals(found.get(seed));
        }
        return same;
    }

    private static SafetyProver drawn(int seed, int calls, List<String> answers) {
        Random random = new Random(seed);
        SafetyProver object = new SafetyProver();
        for (int call = 0; call < calls; call++) {
            String answer = drawnCall(object, random);
            if (answers != null) {
                answers.add(answer);
            }
        }
        return object;
    }

    /** A call of any kind with any arguments; characters that can stand in a formula are the most frequent. */
    private static String drawnCall(SafetyProver object, Random random) {
        int[] numbers = {0, 1, 2, 3, 4, 5, 6, 7, 8, 9, 10, 33, 63, 64, 100, 101, -1, Integer.MIN_VALUE, Integer.MAX_VALUE};
        int one = numbers[random.nextInt(random.nextInt(5) == 0 ? numbers.length : 7)];
        int two = numbers[random.nextInt(random.nextInt(5) == 0 ? numbers.length : 3)];
        int three = numbers[random.nextInt(3)];
        int kind = random.nextInt(56);
        try {
            return kind + " " + answer(object, kind, one, two, three, "ab!&^|()cdefxy01".charAt(random.nextInt(16)));
        } catch (RuntimeException e) {
            return kind + " throws " + e.getClass().getSimpleName();
        }
    }

    private static Object answer(SafetyProver object, int kind, int one, int two, int three, char sign) {
        switch (kind) {
            case 0: return object.begin(one, two);
            case 1: return object.append(one);
            case 2: return object.clearBuffer();
            case 3: return object.firstError();
            case 4: case 28: case 29: return object.setNext(one);
            case 5: return object.setInit();
            case 6: case 30: return object.setProperty();
            case 7: return object.undo();
            case 8: return object.successor(one, two);
            case 9: return object.state(one, two);
            case 10: return object.system(one);
            case 11: return object.shortest(one, two);
            case 12: return object.candidate();
            case 13: return object.check();
            case 14: return object.escape(one);
            case 15: return object.modal(one);
            case 16: return object.prove();
            case 17: return object.proof(one);
            case 18: return object.frame(one);
            case 19: return object.cube(one, two);
            case 20: return object.certificate();
            case 21: return object.shrunken();
            case 22: return object.induction(one > 2);
            case 23: return object.elimination(one);
            case 24: return object.isSafeWithFree(one);
            case 25: return object.leastCone();
            case 26: return object.simulate(one, two, three);
            case 27: return object.digest();
            default: return object.append(sign);
        }
    }
}
