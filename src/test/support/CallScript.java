import java.lang.reflect.InvocationTargetException;
import java.lang.reflect.Method;
import java.util.Set;

/**
 * Runs of calls on new objects, written as the document writes its examples; a text in quotes stands for the calls
 * of append that write it. Each run is carried out twice: as it is written, and then with a look at the digest around
 * each call that throws or only asks, as it changes nothing. The digest asks so much that a call behind it cannot be
 * seen to forget a change: that is what the first time is for.
 */
final class CallScript {
    private static final int MAX_CALLS = 512;
    private static final Set<String> CHANGING =
        Set.of("begin", "append", "clearBuffer", "setNext", "setInit", "setProperty", "undo", "prove");

    int asked = 0;
    int wrong = 0;
    private String name;
    private SafetyProver object;
    private boolean looksAtDigest;
    private int calls;

    void run(String runName, String text) throws Exception {
        name = runName;
        looksAtDigest = false;
        carryOut(text);
        looksAtDigest = true;
        carryOut(text);
    }

    private void carryOut(String text) throws Exception {
        object = new SafetyProver();
        calls = 0;
        int at = 0;
        while (at < text.length()) {
            char sign = text.charAt(at);
            int end;
            if (sign == ' ' || sign == ';') {
                end = at + 1;
            } else if (sign == '\'') {
                end = text.indexOf('\'', at + 1) + 1;
                write(text.substring(at + 1, end - 1));
            } else {
                end = text.indexOf(';', at) < 0 ? text.length() : text.indexOf(';', at);
                call(text.substring(at, end).trim());
            }
            at = end;
        }
        due("the run has " + calls + " calls, more than the document speaks of", calls <= MAX_CALLS);
    }

    private void due(String complaint, boolean holds) {
        if (!holds) {
            wrong++;
            System.out.println(name + ": " + complaint);
        }
    }

    private void write(String text) {
        for (char code : text.toCharArray()) {
            object.append(code);
            calls++;
        }
    }

    private void call(String text) throws Exception {
        int open = text.indexOf('(');
        int sign = text.indexOf(") = ");
        String method = text.substring(0, open);
        String due = text.substring(sign + 4).trim();
        boolean looks = looksAtDigest && changesNothing(method, due);
        long before = looks ? object.digest() : 0;
        String got = answer(method, text.substring(open + 1, sign).trim());
        asked++;
        calls++;
        due("due is " + text + ", but it answered " + got, got.equals(due));
        if (looks) {
            due(text + " changed something", object.digest() == before);
        }
    }

    private static boolean changesNothing(String method, String due) {
        return !CHANGING.contains(method) || due.startsWith("throws ");
    }

    private String answer(String method, String list) throws Exception {
        String[] parts = list.isEmpty() ? new String[0] : list.split(",");
        Object[] values = new Object[parts.length];
        Class<?>[] types = new Class<?>[parts.length];
        for (int index = 0; index < parts.length; index++) {
            String part = parts[index].trim();
            boolean isBoolean = part.equals("true") || part.equals("false");
            types[index] = isBoolean ? boolean.class : int.class;
            values[index] = isBoolean ? (Object) Boolean.valueOf(part) : (Object) Integer.valueOf(part);
        }
        Method called = SafetyProver.class.getMethod(method, types);
        try {
            return String.valueOf(called.invoke(object, values));
        } catch (InvocationTargetException e) {
            return "throws " + e.getCause().getClass().getSimpleName();
        }
    }
}
