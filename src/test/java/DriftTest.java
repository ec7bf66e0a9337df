/** Promise 8: drift does what put, lower and take do one by one, by the numbers of its seed. */
public final class DriftTest {
    private static final Due due = new Due("DriftTest");

    private static long lot;

    private static int wanted(int by) {
        lot = lot * 16807 % 2147483647;
        return (int) (lot % by);
    }

    private static int nthStanding(LooseHeap x, int n) {
        int left = n;
        for (int job = 0; job < x.told(0); job++) {
            if (x.job(job, 2) == 1 && left-- == 0) {
                return job;
            }
        }
        return -1;
    }

    private static void byHand(LooseHeap x, int n, int seed) {
        lot = seed;
        for (int i = 0; i < n; i++) {
            int sort = wanted(4);
            if (sort == 3) {
                x.take();
            } else if (sort == 2 && x.told(1) > 0) {
                int job = nthStanding(x, wanted(x.told(1)));
                int less = wanted(100);
                // lower refuses by itself what is not lesser, or below all keys.
                x.lower(job, x.job(job, 1) - less);
            } else if (sort < 2 && x.told(0) < 40) {
                int kind = wanted(2);
                x.put(kind, wanted(1000));
            }
        }
    }

    private static void same(int n, int seed, int... keysBefore) {
        LooseHeap x = new LooseHeap();
        LooseHeap y = new LooseHeap();
        for (int key : keysBefore) {
            x.put(0, key);
            y.put(0, key);
        }
        x.join();
        y.join();
        byHand(y, n, seed);
        due.is(8, "drift(" + n + ", " + seed + ")", x.drift(n, seed), y.told(1));
        due.holds(8, "drift(" + n + ", " + seed + ") does as the calls do", State.ofHeap(x).equals(State.ofHeap(y)));
    }

    private static int[] row(int n, int key) {
        int[] keys = new int[n];
        for (int i = 0; i < n; i++) {
            keys[i] = key + i;
        }
        return keys;
    }

    private static void refuses() {
        LooseHeap x = new LooseHeap();
        x.put(0, 1);
        String before = State.of(x);
        int[][] bad = {{0, 1}, {41, 1}, {-1, 1}, {1, 0}, {1, -1}, {1, 1000000}, {Integer.MIN_VALUE, 1}, {Integer.MAX_VALUE, 1}, {1, Integer.MIN_VALUE}, {1, Integer.MAX_VALUE}};
        for (int[] two : bad) {
            due.is(8, "drift(" + two[0] + ", " + two[1] + ")", x.drift(two[0], two[1]), LooseHeap.OUTSIDE);
        }
        due.holds(8, "a drift that is refused changes nothing", before.equals(State.of(x)));
    }

    /** 7 times 16807 leaves 1 by 4: a job; then 1977326743 (1 by 2), 621132276 (276 by 1000). */
    private static void firstByHand() {
        LooseHeap x = new LooseHeap();
        due.is(8, "drift(1, 7)", x.drift(1, 7), 1);
        due.is(8, "job(0, 0)", x.job(0, 0), 1977326743 % 2);
        due.is(8, "job(0, 1)", x.job(0, 1), (int) (1977326743L * 16807 % 2147483647 % 1000));
        due.is(8, "drift(1, 7): a seed begins anew", x.drift(1, 7), 2);
        due.is(8, "job(1, 1)", x.job(1, 1), x.job(0, 1));
    }

    public static void main(String[] args) {
        refuses();
        firstByHand();
        for (int seed = 1; seed <= 300; seed++) {
            same(1, seed);
            same(40, seed);
            same(40, seed, row(32, 500));
            same(40, seed, row(40, 50));
            same(40, seed, row(40, -9999));
            same(40, seed, row(20, -9960));
            same(seed % 40 + 1, 999999 - seed * 7, row(16, 300));
        }
        same(40, 999999);
        due.end();
    }
}
