import java.util.ArrayList;
import java.util.Collection;
import java.util.LinkedHashMap;
import java.util.List;
import java.util.Map;
import java.util.Random;

/** Runs of calls by chance (the same ones every time) on the class and on its twin: all answers are alike. */
public final class TwinTest {
    private static final int RUNS = 3000;
    private static final int CALLS = 512;
    private static final int[] WILD = {Integer.MIN_VALUE, Integer.MIN_VALUE + 1, -10000, -9999, -2, -1, 0, 1, 2, 7, 8, 9, 14, 39, 40, 41, 9998, 9999, 10000, 999999, 1000000, Integer.MAX_VALUE - 1, Integer.MAX_VALUE};
    private static final String[] NAMES = {"put", "lower", "take", "drop", "join", "clear", "drift", "told", "job", "child", "loose", "bits", "sit", "sits", "net", "road", "tree", "way", "ways", "keep", "goBack"};
    private static final int FIRST_PROMISE = 2;
    private static final Collection<Call> LOOKS = looks();
    // How often each call comes, by the kind of run: all alike, a deep heap, a net.
    private static final int[][] OFTEN = {
        {6, 6, 3, 3, 3, 1, 2, 6, 6, 4, 4, 3, 6, 4, 1, 6, 4, 4, 4, 2, 2},
        {12, 40, 1, 4, 2, 0, 0, 6, 10, 4, 8, 2, 1, 1, 0, 0, 0, 0, 0, 1, 1},
        {1, 1, 1, 0, 0, 0, 1, 1, 1, 0, 0, 0, 0, 0, 2, 30, 20, 20, 10, 1, 1},
    };

    private final Random random;
    private final int[] a = new int[3];

    private TwinTest(long seed) {
        random = new Random(seed);
    }

    private int of(int least, int most) {
        return least + random.nextInt(most - least + 1);
    }

    private int jobNumber(LooseHeap x) {
        return of(0, Math.max(0, x.told(0) - 1));
    }

    private int takenJob(LooseHeap x) {
        int job = jobNumber(x);
        for (int i = 0; i < 10 && x.job(job, 2) == 1; i++) {
            job = jobNumber(x);
        }
        return job;
    }

    /** Mostly a little below the job above it, so that it gets loose and others may get sooner yet. */
    private int lesserKey(LooseHeap x, int job) {
        int above = x.job(job, 3);
        int key = x.job(job, 1);
        int aim = above >= 0 && random.nextInt(4) > 0 ? Math.min(x.job(above, 1), key) : key;
        return Math.max(-9999, aim - of(0, 30));
    }

    private int weight() {
        int sort = random.nextInt(10);
        if (sort == 0) {
            return of(9990, 9999);
        }
        return sort < 5 ? of(0, 9) : sort < 8 ? of(0, 100) : of(0, 9999);
    }

    private void choose(LooseHeap x, int op) {
        int places = Math.max(1, x.told(9));
        switch (op) {
            case 0: a[0] = of(0, 1); a[1] = random.nextInt(3) == 0 ? of(-9999, 9999) : of(0, 60); break;
            case 1: a[0] = jobNumber(x); a[1] = lesserKey(x, a[0]); break;
            case 3: a[0] = jobNumber(x); break;
            case 6: a[0] = of(1, 40); a[1] = of(1, 999999); break;
            case 7: a[0] = of(0, 10); break;
            case 8: a[0] = jobNumber(x); a[1] = of(0, 8); break;
            case 9: a[0] = jobNumber(x); a[1] = of(0, 5); break;
            case 10: a[0] = of(0, 5); break;
            case 12: a[0] = of(0, 1); a[1] = of(0, 7); a[2] = takenJob(x); break;
            case 13: a[0] = of(0, 1); a[1] = of(0, 7); break;
            case 14: a[0] = of(random.nextInt(3) == 0 ? 2 : 5, 8); break;
            case 15: a[0] = of(0, places - 1); a[1] = of(0, places - 1); a[2] = weight(); break;
            case 16: a[0] = of(0, places - 1); a[1] = of(0, 4); break;
            case 17: a[0] = of(0, places - 1); a[1] = of(0, places - 1); break;
            case 18: a[0] = of(0, places - 1); a[1] = of(0, 3); break;
            default: a[0] = of(0, 1); break;
        }
        if (random.nextInt(20) == 0) {
            a[random.nextInt(3)] = WILD[random.nextInt(WILD.length)];
        }
    }

    private int pick(int[] often) {
        int sum = 0;
        for (int weight : often) {
            sum += weight;
        }
        int left = random.nextInt(sum);
        for (int op = 0; op < often.length; op++) {
            left -= often[op];
            if (left < 0) {
                return op;
            }
        }
        return 0;
    }

    /** The run that a wrong answer ends is printed, so that it can be made again. */
    private void run(Due due, int run) {
        LooseHeap x = new LooseHeap();
        // A second object takes the same calls, so that what a run asks for its choices costs no call of the first.
        LooseHeap guide = new LooseHeap();
        Twin twin = new Twin();
        List<Call> calls = new ArrayList<>();
        int sort = run % OFTEN.length;
        for (int i = 0; i < CALLS; i++) {
            int op = sort == 1 && i < 40 ? 0 : sort == 1 && i == 40 ? 4 : pick(OFTEN[sort]);
            choose(guide, op);
            Call call = Call.of(NAMES[op], a);
            calls.add(call);
            long got = call.on(x);
            long want = call.on(twin);
            due.is(FIRST_PROMISE + op, got == want ? "" : call + " as call " + i + " of run " + run, got, want);
            if (got != want) {
                System.out.println(calls);
                return;
            }
            call.on(guide);
        }
        compareAll(due, run, x, twin);
    }

    private static Collection<Call> looks() {
        Map<String, Call> found = new LinkedHashMap<>();
        for (String name : new String[] {"told", "job", "child", "loose", "bits", "sits", "tree", "way", "ways"}) {
            for (int first = -1; first <= 40; first++) {
                for (int second = -1; second <= 9; second++) {
                    Call look = Call.of(name, first, second);
                    found.put(look.toString(), look);
                }
            }
        }
        return found.values();
    }

    /** This goes beyond the 512 calls that are promised: the class does not count its calls, so all can be looked at. */
    private static void compareAll(Due due, int run, LooseHeap x, Twin twin) {
        for (Call look : LOOKS) {
            long got = look.on(x);
            long want = look.on(twin);
            due.is(0, got == want ? "" : look + " after run " + run, got, want);
        }
    }

    public static void main(String[] args) {
        Due due = new Due("TwinTest");
        for (int run = 0; run < RUNS && due.wrong() < 5; run++) {
            new TwinTest(run).run(due, run);
        }
        due.end();
    }
}
