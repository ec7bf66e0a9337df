import java.lang.reflect.Field;
import java.util.ArrayList;
import java.util.List;
import java.util.Set;

/**
 * Tests of single sentences of the document. A sentence is told by rows, all on one new object: "call", "call = answer" or
 * "n x call = answer"; an answer is a number or a constant's name. Behind each call whose due answer is a refusal,
 * everything is asked with and without that call: "What is refused, or found, changes nothing."
 */
final class Sentences {
    private static final int MOST_CALLS = 512;
    private static final Set<Long> REFUSALS = Set.of(constant("UNKNOWN"), constant("OUTSIDE"), constant("NOT"), constant("FULL"), constant("PLACE"), constant("STORE"));

    private final Due due;

    Sentences(String test) {
        due = new Due(test);
    }

    void hold(int promise, String words, String... rows) {
        LooseHeap x = new LooseHeap();
        List<Call> made = new ArrayList<>();
        for (String row : rows) {
            String[] sides = row.split(" = ");
            for (Call call : Call.all(sides[0])) {
                long got = call.on(x);
                if (sides.length > 1) {
                    check(promise, words, made, call, got, number(sides[1]));
                }
                made.add(call);
            }
        }
        due.holds(promise, "no more than " + MOST_CALLS + " calls: " + words, made.size() <= MOST_CALLS);
    }

    private void check(int promise, String words, List<Call> before, Call call, long got, long want) {
        due.is(promise, call + " as call " + before.size() + " (" + words + ")", got, want);
        if (REFUSALS.contains(want)) {
            String difference = Looks.difference(Looks.behind(before, null), Looks.behind(before, call));
            due.holds(promise, call + " as call " + before.size() + " changes nothing (" + words + "): " + difference, difference == null);
        }
    }

    /** Rows that come first, and more of them. */
    static String[] rows(String[] first, String... more) {
        String[] all = new String[first.length + more.length];
        System.arraycopy(first, 0, all, 0, first.length);
        System.arraycopy(more, 0, all, first.length, more.length);
        return all;
    }

    /** n jobs, by turns plain and urgent, of keys 100, 101 .., joined: of 8 job 0 is above 1, 2, 4; 2 above 3; 4 above 5, 6; 6 above 7. */
    static String[] joined(int n) {
        String[] rows = new String[n + 1];
        for (int job = 0; job < n; job++) {
            rows[job] = "put(" + job % 2 + ", " + (100 + job) + ")";
        }
        rows[n] = "join()";
        return rows;
    }

    static long number(String text) {
        if (Character.isUpperCase(text.charAt(0))) {
            return constant(text);
        }
        return text.startsWith("0x") ? Long.parseUnsignedLong(text.substring(2), 16) : Long.parseLong(text);
    }

    private static long constant(String name) {
        try {
            Field field = Twin.class.getDeclaredField(name);
            return field.getInt(null);
        } catch (ReflectiveOperationException missing) {
            throw new IllegalArgumentException(name, missing);
        }
    }

    void end() {
        due.end();
    }
}
