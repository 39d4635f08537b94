import java.lang.reflect.InvocationTargetException;
import java.lang.reflect.Method;
import java.lang.reflect.Modifier;
import java.util.ArrayList;
import java.util.HashMap;
import java.util.List;
import java.util.Map;

/**
 * A run of calls on one new object, each told by words such as "sign 0 3 9" (LOW and HIGH are the ends of int).
 * Nothing is promised behind the 512th call, so a run that goes further is a fault of the test.
 */
final class Run {
    static final int BAD = -1, STATE = -2, FULL = -3, NONE = -4;
    static final int CALLS_MOST = 512;
    private static final Map<String, Method> FACE = face();

    private final Check check;
    private final WheelTickets x = new WheelTickets();
    private final StringBuilder story = new StringBuilder();
    private int calls = 0;

    Run(Check check) {
        this.check = check;
    }

    /** A run that begins with a text, which must be taken, and with calls whose answers are not looked at. */
    static Run told(Check check, String text, String... first) {
        Run run = new Run(check);
        run.feed(text);
        check.that("taken: \"" + text + "\"", run.call("text") >= 0);
        return run.then(first);
    }

    private static Map<String, Method> face() {
        Map<String, Method> face = new HashMap<>();
        for (Method m : WheelTickets.class.getDeclaredMethods()) {
            if (Modifier.isPublic(m.getModifiers())) {
                face.put(m.getName(), m);
            }
        }
        return face;
    }

    int calls() {
        return calls;
    }

    private static Integer number(String word) {
        return word.equals("LOW") ? Integer.valueOf(Integer.MIN_VALUE)
            : word.equals("HIGH") ? Integer.valueOf(Integer.MAX_VALUE) : Integer.valueOf(word);
    }

    long call(String words) {
        String[] parts = words.split(" ");
        Object[] numbers = new Object[parts.length - 1];
        for (int i = 0; i < numbers.length; i++) {
            numbers[i] = number(parts[i + 1]);
        }
        calls++;
        if (calls > CALLS_MOST) {
            throw new IllegalStateException("more than 512 calls: " + story);
        }
        try {
            long answer = ((Number) FACE.get(parts[0]).invoke(x, numbers)).longValue();
            story.append(words).append(" = ").append(answer).append("; ");
            return answer;
        } catch (InvocationTargetException e) {
            throw new IllegalStateException(words + " throws, behind " + story, e.getCause());
        } catch (IllegalAccessException e) {
            throw new IllegalStateException(words, e);
        }
    }

    Run feed(String text) {
        for (int i = 0; i < text.length(); i++) {
            calls++;
            x.feed(text.charAt(i));
        }
        story.append('"').append(text).append("\" ");
        return this;
    }

    Run then(String... words) {
        for (String w : words) {
            call(w);
        }
        return this;
    }

    Run due(String words, long want) {
        String before = story.toString();
        check.due(before + "|| " + words, call(words), want);
        return this;
    }

    /** A call of one number more, which is 0 for the numerator and 1 for the denominator. */
    Run fraction(String words, long numerator, long denominator) {
        return due(words + " 0", numerator).due(words + " 1", denominator);
    }

    Run isBad(String words) {
        return due(words, BAD);
    }

    Run isNotBad(String words) {
        String before = story.toString();
        long answer = call(words);
        check.that(before + "|| " + words + " is not BAD", answer != BAD);
        return this;
    }

    /** Every answer that only looks at PEOPLE, TICKETS, PRIZES, and at how much there is of the rest. */
    List<Long> look() {
        List<Long> seen = new ArrayList<>();
        for (int what = 0; what < 6; what++) {
            seen.add(call("rule " + what));
        }
        for (int what = 0; what < 5; what++) {
            seen.add(call("count " + what));
        }
        long people = seen.get(0);
        long tickets = seen.get(1);
        for (int p = 0; p < people; p++) {
            seen.add(call("person " + p + " 0"));
        }
        for (int t = 0; t < tickets; t++) {
            for (int what = 0; what < 5; what++) {
                seen.add(call("ticket " + t + " " + what));
            }
            seen.add(call("prize " + t + " 0"));
            seen.add(call("prize " + t + " 1"));
        }
        seen.add(call("fault"));
        seen.add(call("torn"));
        return seen;
    }

    /** What is SEEN, told by the ways that fit, while one after another is forgotten. */
    List<Long> lookAtSeen() {
        List<Long> seen = new ArrayList<>();
        for (long n = call("count 1"); n >= 0; n--) {
            seen.add(call("forget " + n));
            seen.add(call("fits 0"));
            seen.add(call("fits 10"));
        }
        return seen;
    }

    /** Each pair of CELLS of a SHEET, told by the draws that it is good for behind IMAGE 0; as of each lane. */
    List<Long> lookAtSheet(int k, int cells) {
        List<Long> seen = new ArrayList<>();
        for (int lane = 0; lane < 3; lane++) {
            seen.add(call("back 0"));
            seen.add(call("read " + k + " " + lane + " 0 1"));
            long torn = call("torn");
            seen.add(torn);
            for (int f = 1; torn != 1 && torn != 3 && f < cells; f++) {
                seen.add(call("back 0"));
                seen.add(call("read " + k + " " + lane + " " + f + " 1"));
                seen.add(call("rule 3"));
                seen.add(call("rule 4"));
            }
        }
        return seen;
    }

    List<Long> lookAtImage(int k) {
        List<Long> seen = new ArrayList<>();
        seen.add(call("back " + k));
        seen.addAll(look());
        seen.addAll(lookAtSeen());
        return seen;
    }

    /** THE TAPE, told by the text that it is. */
    List<Long> lookAtTape() {
        List<Long> seen = new ArrayList<>();
        seen.add(call("count 3"));
        seen.add(call("text"));
        seen.addAll(look());
        return seen;
    }
}
