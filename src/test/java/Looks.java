import java.util.ArrayList;
import java.util.Arrays;
import java.util.List;

/**
 * What the calls of a run have come to, asked in all ways: by looking, by going back to the images, and by going on.
 * Each list of questions is asked of an object of its own, so that none of them gets more calls than are promised.
 */
final class Looks {
    private static final int MOST_CALLS = 512;
    private static final List<List<Call>> QUESTIONS = List.of(overall(), jobs(), children(), nets(), back(0), back(1), goingOn(), anew());

    private Looks() {
    }

    /** What is asked behind these calls, and then behind one more (null: none). */
    static List<long[]> behind(List<Call> calls, Call more) {
        List<long[]> answers = new ArrayList<>();
        for (List<Call> questions : QUESTIONS) {
            if (calls.size() + 1 + questions.size() > MOST_CALLS) {
                throw new IllegalStateException("more than " + MOST_CALLS + " calls");
            }
            LooseHeap x = new LooseHeap();
            for (Call call : calls) {
                call.on(x);
            }
            if (more != null) {
                more.on(x);
            }
            long[] row = new long[questions.size()];
            for (int i = 0; i < row.length; i++) {
                row[i] = questions.get(i).on(x);
            }
            answers.add(row);
        }
        return answers;
    }

    /** The first question that two such lots of answers differ in; null: none. */
    static String difference(List<long[]> one, List<long[]> other) {
        for (int i = 0; i < one.size(); i++) {
            int at = Arrays.mismatch(one.get(i), other.get(i));
            if (at >= 0) {
                return QUESTIONS.get(i).get(at) + " answered " + one.get(i)[at] + ", and then " + other.get(i)[at];
            }
        }
        return null;
    }

    private static List<Call> overall() {
        List<Call> found = new ArrayList<>();
        grid(found, "told", 11, 1);
        grid(found, "loose", 40, 1);
        found.add(Call.of("bits()"));
        grid(found, "sits", 2, 8);
        return found;
    }

    private static List<Call> jobs() {
        List<Call> found = new ArrayList<>();
        grid(found, "job", 40, 9);
        return found;
    }

    private static List<Call> children() {
        List<Call> found = new ArrayList<>();
        grid(found, "child", 40, 7);
        return found;
    }

    private static List<Call> nets() {
        List<Call> found = new ArrayList<>();
        grid(found, "tree", 8, 5);
        grid(found, "ways", 8, 4);
        grid(found, "way", 8, 8);
        return found;
    }

    private static List<Call> back(int image) {
        List<Call> found = new ArrayList<>();
        found.add(Call.of("goBack", image));
        found.addAll(overall());
        grid(found, "job", 40, 6);
        return found;
    }

    /** Calls that change something, and what they come to. */
    private static List<Call> goingOn() {
        List<Call> found = new ArrayList<>();
        for (String text : new String[] {"take()", "sit(0, 0, 0)", "lower(1, -9000)", "put(1, 3)", "drop(2)", "road(0, 1, 5)", "join()", "drift(40, 4711)", "keep(0)", "drift(7, 99)"}) {
            found.add(Call.of(text));
        }
        found.addAll(overall());
        grid(found, "job", 40, 6);
        return found;
    }

    private static List<Call> anew() {
        List<Call> found = new ArrayList<>();
        for (String text : new String[] {"clear()", "put(1, 3)", "net(8)", "road(0, 7, 2)", "take()", "sit(1, 7, 0)"}) {
            found.add(Call.of(text));
        }
        found.addAll(overall());
        found.addAll(nets());
        return found;
    }

    private static void grid(List<Call> found, String name, int firsts, int seconds) {
        for (int first = 0; first < firsts; first++) {
            for (int second = 0; second < seconds; second++) {
                found.add(Call.of(name, first, second));
            }
        }
    }
}
