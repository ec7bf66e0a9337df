import java.util.ArrayList;
import java.util.List;

/**
 * "What is refused, or found, changes nothing.": in several states, every call with every choice of numbers at its edges.
 * The twin tells what is refused, and by which of several refusals; behind each refusal all is asked again.
 */
public final class RefusalTest {
    private static final Due due = new Due("RefusalTest");
    private static final int MIN = Integer.MIN_VALUE;
    private static final int MAX = Integer.MAX_VALUE;
    private static final int[] KINDS = {MIN, -1, 0, 1, 2, MAX};
    private static final int[] KEYS = {MIN, -10000, -9999, 0, 55, 9999, 10000, MAX};
    private static final int[] JOBS = {MIN, -1, 0, 1, 3, 15, 17, 18, 39, 40, MAX};
    private static final int[] PLACES = {MIN, -1, 0, 1, 4, 5, 7, 8, MAX};
    private static final int[] WEIGHTS = {MIN, -1, 0, 9999, 10000, MAX};
    private static final int[] WHATS = {MIN, -1, 0, 3, 4, 5, 8, 9, 10, 11, MAX};
    private static final int[] TWO = {MIN, -1, 0, 1, 2, MAX};
    private static final int[] TURNS = {MIN, -1, 0, 1, 40, 41, MAX};
    private static final int[] SEEDS = {MIN, -1, 0, 1, 999999, 1000000, MAX};
    private static final int[] NONE_WANTED = {0};

    private static List<Call> everyCall() {
        List<Call> found = new ArrayList<>();
        add(found, "put", KINDS, KEYS, NONE_WANTED);
        add(found, "lower", JOBS, KEYS, NONE_WANTED);
        add(found, "take", NONE_WANTED, NONE_WANTED, NONE_WANTED);
        add(found, "drop", JOBS, NONE_WANTED, NONE_WANTED);
        add(found, "drift", TURNS, SEEDS, NONE_WANTED);
        add(found, "told", WHATS, NONE_WANTED, NONE_WANTED);
        add(found, "job", JOBS, WHATS, NONE_WANTED);
        add(found, "child", JOBS, WHATS, NONE_WANTED);
        add(found, "loose", WHATS, NONE_WANTED, NONE_WANTED);
        add(found, "sit", TWO, PLACES, JOBS);
        add(found, "sits", TWO, PLACES, NONE_WANTED);
        add(found, "net", PLACES, NONE_WANTED, NONE_WANTED);
        add(found, "road", PLACES, PLACES, WEIGHTS);
        add(found, "tree", PLACES, WHATS, NONE_WANTED);
        add(found, "way", PLACES, PLACES, NONE_WANTED);
        add(found, "ways", PLACES, WHATS, NONE_WANTED);
        add(found, "keep", TWO, NONE_WANTED, NONE_WANTED);
        add(found, "goBack", TWO, NONE_WANTED, NONE_WANTED);
        return found;
    }

    private static void add(List<Call> found, String name, int[] firsts, int[] seconds, int[] thirds) {
        for (int first : firsts) {
            for (int second : seconds) {
                for (int third : thirds) {
                    found.add(Call.of(name, first, second, third));
                }
            }
        }
    }

    private static boolean isRefusal(long answer) {
        return answer <= Twin.UNKNOWN && answer >= Twin.FULL || answer == Twin.PLACE || answer == Twin.STORE;
    }

    private static void in(String state, int leastRefusals, String... rows) {
        List<Call> before = Call.all(rows);
        List<long[]> looks = Looks.behind(before, null);
        int refusals = 0;
        for (Call call : everyCall()) {
            LooseHeap x = new LooseHeap();
            Twin twin = new Twin();
            for (Call made : before) {
                made.on(x);
                made.on(twin);
            }
            long want = call.on(twin);
            due.is(0, call + " " + state, call.on(x), want);
            if (isRefusal(want)) {
                refusals++;
                String difference = Looks.difference(looks, Looks.behind(before, call));
                due.holds(0, call + " " + state + " changes nothing: " + difference, difference == null);
            }
        }
        due.holds(0, refusals + " refusals " + state, refusals >= leastRefusals);
    }

    // Each state but the first and the last has two roots of rank 0, so that a call that joins is seen.
    public static void main(String[] args) {
        in("on a new object", 800);
        String[] growing = Sentences.rows(Sentences.joined(16),
            "lower(12, 50)", "lower(14, 40)", "lower(7, 30)", "take()", "sit(1, 5, 7)", "drop(3)", "sit(0, 0, 3)", "drop(0)", "lower(15, 20)", "net(5)", "road(0, 4, 3)", "road(4, 2, 5)", "road(1, 3, 9998)", "keep(0)", "lower(13, 10)", "put(0, 60)", "put(1, 70)");
        in("with 18 jobs, loose ones among them, and a net of 5", 500, growing);
        in("with all that there may be", 500,
            "18 x put(0, 55)", "19 x put(1, 54)", "put(1, 9999)", "join()", "keep(1)", "5 x take()", "lower(3, 10)", "lower(15, 9)", "sit(0, 7, 18)", "sit(1, 7, 19)", "put(0, 55)", "put(1, 55)", "net(8)", "13 x road(0, 7, 9999)", "road(1, 0, 0)", "keep(0)");
        in("with all jobs taken", 500, "put(1, 1)", "put(0, 0)", "put(1, -9999)", "put(1, 9999)", "join()", "4 x take()", "sit(0, 0, 0)", "sit(1, 4, 3)", "net(2)", "keep(1)");
        due.end();
    }
}
