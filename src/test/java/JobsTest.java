/** Promises 2 to 7 and 9 to 13: what happens to jobs in their trees, and what is told of them. */
public final class JobsTest {
    private static final int MIN = Integer.MIN_VALUE;
    private static final int MAX = Integer.MAX_VALUE;
    private static final Due due = new Due("JobsTest");

    /** n jobs of keys 100, 101 .., joined: for 16 of them job 0 is above 1, 2, 4, 8; 8 above 9, 10, 12; 12 above 13, 14; and so on. */
    private static LooseHeap joined(int n) {
        LooseHeap x = new LooseHeap();
        for (int job = 0; job < n; job++) {
            x.put(job % 2, 100 + job);
        }
        x.join();
        return x;
    }

    private static void told(LooseHeap x, int promise, String when, int... want) {
        for (int what = 0; what < want.length; what++) {
            due.is(promise, "told(" + what + ") " + when, x.told(what), want[what]);
        }
    }

    private static void children(LooseHeap x, int promise, int job, int... want) {
        due.is(promise, "job(" + job + ", 4)", x.job(job, 4), want.length);
        for (int k = 0; k < want.length; k++) {
            due.is(promise, "child(" + job + ", " + k + ")", x.child(job, k), want[k]);
            due.is(promise, "job(" + want[k] + ", 3)", x.job(want[k], 3), job);
        }
        due.is(promise, "child(" + job + ", " + want.length + ")", x.child(job, want.length), -1);
    }

    private static void unchanged(int promise, LooseHeap x, String before, String call) {
        due.holds(promise, call + " changes nothing", before.equals(State.of(x)));
    }

    private static void put() {
        LooseHeap x = new LooseHeap();
        for (int[] bad : new int[][] {{2, 0}, {-1, 0}, {0, 10000}, {1, -10000}, {MIN, 0}, {MAX, 0}, {0, MIN}, {0, MAX}}) {
            due.is(2, "put(" + bad[0] + ", " + bad[1] + ")", x.put(bad[0], bad[1]), LooseHeap.OUTSIDE);
        }
        due.is(2, "told(0) after puts that are refused", x.told(0), 0);
        for (int job = 0; job < 40; job++) {
            due.is(2, "put as job " + job, x.put(job % 2, job % 2 == 0 ? -9999 : 9999), job);
            due.is(2, "job(" + job + ", 3)", x.job(job, 3), -1);
        }
        told(x, 2, "after 40 puts: nothing is joined", 40, 40, 0, 40, 0, 0, 0, 0, 1);
        String before = State.of(x);
        due.is(2, "put(0, 0) as the 41st", x.put(0, 0), LooseHeap.FULL);
        due.is(2, "put(2, 0) as the 41st", x.put(2, 0), LooseHeap.OUTSIDE);
        unchanged(2, x, before, "a put that is refused");
        x.take();
        due.is(2, "put(0, 0): a taken one counts, too", x.put(0, 0), LooseHeap.FULL);
        x.clear();
        due.is(2, "put(1, 3) after clear", x.put(1, 3), 0);
        due.is(2, "job(0, 0)", x.job(0, 0), 1);
        due.is(2, "job(0, 1)", x.job(0, 1), 3);
    }

    private static void lowerRefuses() {
        LooseHeap x = new LooseHeap();
        due.is(3, "lower(0, 0) without jobs", x.lower(0, 0), LooseHeap.UNKNOWN);
        x.put(0, 50);
        x.put(0, 60);
        x.take();
        String before = State.of(x);
        for (int job : new int[] {-1, 2, 39, 40, MIN, MAX}) {
            due.is(3, "lower(" + job + ", 0)", x.lower(job, 0), LooseHeap.UNKNOWN);
            due.is(3, "lower(" + job + ", 10000)", x.lower(job, 10000), LooseHeap.UNKNOWN);
        }
        for (int key : new int[] {-10000, 10000, MIN, MAX}) {
            due.is(3, "lower(1, " + key + ")", x.lower(1, key), LooseHeap.OUTSIDE);
            due.is(3, "lower(0, " + key + ") of a taken one", x.lower(0, key), LooseHeap.OUTSIDE);
        }
        due.is(3, "lower(1, 60)", x.lower(1, 60), LooseHeap.NOT);
        due.is(3, "lower(1, 61)", x.lower(1, 61), LooseHeap.NOT);
        due.is(3, "lower(0, 1) of a taken one", x.lower(0, 1), LooseHeap.NOT);
        unchanged(3, x, before, "a lower that is refused");
        due.is(3, "lower(1, 59)", x.lower(1, 59), 0);
        due.is(3, "job(1, 1)", x.job(1, 1), 59);
        due.is(3, "lower(1, -9999)", x.lower(1, -9999), 0);
        due.is(3, "lower(1, -9999) again", x.lower(1, -9999), LooseHeap.NOT);
    }

    private static void lowerLoosens() {
        LooseHeap x = joined(4);
        children(x, 6, 0, 1, 2);
        children(x, 6, 2, 3);
        due.is(3, "lower(3, 103 - 1): like key, greater number", x.lower(3, 102), 0);
        due.is(3, "lower(3, 101)", x.lower(3, 101), 1);
        due.is(3, "job(3, 3): it is not moved", x.job(3, 3), 2);
        told(x, 3, "with 3 loose", 4, 4, 0, 1, 1, 2, 3, 0, 3);
        due.is(3, "lower(2, 90): that is sooner than 3 again, and loose itself", x.lower(2, 90), 1);
        due.is(12, "loose(1)", x.loose(1), 2);
        due.is(12, "loose(0): nothing told makes 3 fast again", x.loose(0), 3);
        due.is(3, "lower(3, 95): not sooner than 2, but loose as before", x.lower(3, 95), 1);
        due.is(9, "told(2): the soonest is a loose one", x.told(2), 2);
        due.is(3, "lower(0, 50): a root", x.lower(0, 50), 0);
        due.is(9, "told(2)", x.told(2), 0);
        due.is(9, "told(4)", x.told(4), 2);
        LooseHeap y = new LooseHeap();
        y.put(0, 10);
        y.put(0, 9);
        y.join();
        children(y, 6, 1, 0);
        due.is(3, "lower(0, 9): like key, lesser number", y.lower(0, 9), 1);
        due.is(9, "told(4): 0 counts, too", y.told(4), 1);
        due.is(12, "loose(0): 0", y.loose(0), 0);
        due.is(9, "told(2)", y.told(2), 0);
    }

    private static void settles() {
        LooseHeap x = joined(8);
        children(x, 6, 0, 1, 2, 4);
        due.is(3, "lower(7, 50)", x.lower(7, 50), 1);
        due.is(3, "lower(1, 60): two loose ones of rank 0", x.lower(1, 60), 0);
        told(x, 3, "after that", 8, 8, 7, 2, 0, 2, 8, 2, 3);
        children(x, 3, 7, 1);
        children(x, 3, 0, 2, 4);
        children(x, 3, 6);
        due.is(3, "lower(6, 70): rank 0", x.lower(6, 70), 1);
        due.is(3, "lower(2, 80): rank 1", x.lower(2, 80), 1);
        due.is(12, "loose(0)", x.loose(0), 6);
        due.is(12, "loose(1)", x.loose(1), 2);
        due.is(12, "loose(2)", x.loose(2), -1);
        due.is(9, "told(4)", x.told(4), 2);
        due.is(3, "lower(3, 75): rank 0, as 6", x.lower(3, 75), 0);
        told(x, 3, "after that; 2 has rank 0 now", 8, 8, 7, 3, 1, 2, 9, 4, 3);
        due.is(12, "loose(0)", x.loose(0), 2);
        due.is(12, "loose(1)", x.loose(1), -1);
        children(x, 3, 6, 3);
    }

    private static void settlesOnAndOn() {
        LooseHeap x = joined(16);
        children(x, 6, 12, 13, 14);
        due.is(3, "lower(12, 90)", x.lower(12, 90), 1);
        due.is(3, "lower(6, 80)", x.lower(6, 80), 1);
        due.is(3, "lower(13, 70)", x.lower(13, 70), 1);
        told(x, 3, "with three loose ones", 16, 16, 13, 1, 3, 4, 15, 0, 5);
        due.is(3, "lower(1, 75): 12 has rank 1 then, as 6", x.lower(1, 75), 0);
        told(x, 3, "after that", 16, 16, 13, 3, 0, 3, 17, 4, 4);
        children(x, 3, 13, 1);
        children(x, 3, 6, 7, 12);
        children(x, 3, 12, 14);
        children(x, 3, 0, 2, 4, 8);
        children(x, 3, 8, 9, 10);
        LooseHeap y = joined(16);
        due.is(5, "drop(13)", y.drop(13), 15);
        children(y, 5, 12, 14);
        due.is(3, "lower(14, 50)", y.lower(14, 50), 1);
        due.is(3, "lower(12, 60): above 14, and of its rank", y.lower(12, 60), 0);
        told(y, 3, "after that", 16, 15, 14, 2, 0, 4, 16, 3, 4);
        children(y, 3, 14, 15, 12);
        children(y, 3, 12);
    }

    private static void take() {
        LooseHeap x = new LooseHeap();
        due.is(4, "take() without jobs", x.take(), LooseHeap.NOT);
        x = joined(8);
        due.is(4, "take() of a root", x.take(), 0);
        told(x, 4, "after that: 1, 2, 4 are roots of like ranks no more", 8, 7, 1, 3, 0, 2, 7, 0, 3);
        due.is(4, "job(0, 2)", x.job(0, 2), 0);
        x.lower(7, 10);
        due.is(4, "take() of a loose one", x.take(), 7);
        told(x, 4, "after that: a cut, 1 and 6 .. stand as they did", 8, 6, 1, 3, 0, 2, 7, 1, 2);
        due.is(4, "take()", x.take(), 1);
        due.is(4, "take()", x.take(), 2);
        told(x, 4, "after that", 8, 4, 3, 2, 0, 2, 7, 1, 2);
        x.put(0, 200);
        due.is(4, "take(): what was put is joined then", x.take(), 3);
        told(x, 4, "after that", 9, 4, 4, 2, 0, 2, 7, 1, 2);
        due.is(4, "take()", x.take(), 4);
        told(x, 4, "after that: 5, 6 and 8 were alone", 9, 3, 5, 2, 0, 1, 8, 1, 2);
        children(x, 4, 5, 6);
        due.is(4, "take()", x.take(), 5);
        children(x, 4, 6, 8);
        due.is(4, "take()", x.take(), 6);
        due.is(4, "take()", x.take(), 8);
        due.is(4, "take() with none left", x.take(), LooseHeap.NOT);
        told(x, 4, "at the end", 9, 0, -1, 0, 0, -1, 9, 1, 0);
        LooseHeap y = new LooseHeap();
        for (int key : new int[] {5, 3, 3, -2, 5}) {
            y.put(0, key);
        }
        for (int job : new int[] {3, 1, 2, 0, 4}) {
            due.is(4, "take(): of like keys the lesser number", y.take(), job);
        }
    }

    /** Children of a taken one are loose no more, though it is for no cut. */
    private static void takeFrees() {
        LooseHeap x = joined(8);
        x.lower(4, 90);
        due.is(12, "loose(2)", x.loose(2), 4);
        due.is(5, "drop(0)", x.drop(0), 7);
        told(x, 5, "after that", 8, 7, 4, 3, 0, 2, 7, 0, 3);
        due.is(5, "job(4, 5)", x.job(4, 5), 0);
        due.is(5, "job(4, 3)", x.job(4, 3), -1);
    }

    private static void drop() {
        LooseHeap x = joined(16);
        String before = State.of(x);
        for (int job : new int[] {-1, 16, 40, MIN, MAX}) {
            due.is(5, "drop(" + job + ")", x.drop(job), LooseHeap.UNKNOWN);
        }
        unchanged(5, x, before, "a drop that is refused");
        x.lower(6, 50);
        x.lower(13, 60);
        due.is(5, "drop(7): 6 has rank 0 then, as 13", x.drop(7), 15);
        told(x, 5, "after that: a cut, and two that settle", 16, 15, 6, 2, 0, 4, 16, 3, 5);
        children(x, 5, 6, 13);
        due.is(5, "drop(7) again", x.drop(7), LooseHeap.NOT);
        due.is(5, "drop(0)", x.drop(0), 14);
        children(x, 5, 2, 3, 4);
        told(x, 5, "after that: of 1, 2, 4, 6, 8 the first two of rank 1 are linked", 16, 14, 6, 4, 0, 3, 17, 3, 4);
    }

    private static void join() {
        LooseHeap x = new LooseHeap();
        due.is(6, "join() without jobs", x.join(), 0);
        x.put(0, 5);
        due.is(6, "join() of one", x.join(), 0);
        told(x, 9, "of one job", 1, 1, 0, 1, 0, 0, 0, 0, 1);
        x.put(0, 4);
        x.put(0, 6);
        due.is(6, "join() of three", x.join(), 1);
        children(x, 6, 1, 0);
        due.is(6, "join() again", x.join(), 0);
        x.put(0, 7);
        x.put(0, 1);
        due.is(6, "join(): least rank first, least numbers first", x.join(), 2);
        children(x, 6, 2, 3);
        children(x, 6, 1, 0, 2);
        due.is(6, "job(4, 3)", x.job(4, 3), -1);
    }

    private static void clear() {
        LooseHeap x = joined(8);
        x.net(3);
        x.road(0, 1, 5);
        x.lower(7, 1);
        x.take();
        x.sit(0, 2, 7);
        x.sit(1, 3, 7);
        x.keep(0);
        due.is(7, "clear()", x.clear(), 8);
        told(x, 7, "after clear; the net stays", 0, 0, -1, 0, 0, -1, 0, 0, 0, 3, 1);
        due.is(7, "sits(0, 2)", x.sits(0, 2), -1);
        due.is(7, "sits(1, 3)", x.sits(1, 3), -1);
        due.is(7, "job(0, 0)", x.job(0, 0), LooseHeap.UNKNOWN);
        due.is(7, "bits()", x.bits(), 0);
        due.is(7, "loose(0)", x.loose(0), -1);
        due.is(7, "clear() again", x.clear(), 0);
        LooseHeap fresh = new LooseHeap();
        LooseHeap loose = joined(8);
        loose.lower(4, 50);
        loose.lower(6, 40);
        loose.lower(7, 30);
        loose.clear();
        for (int job = 0; job < 8; job++) {
            fresh.put(1, 9 - job);
            loose.put(1, 9 - job);
        }
        due.holds(7, "new jobs have nothing of those that were cleared", State.of(fresh).equals(State.of(loose)));
        due.is(7, "goBack(0): an image stays", x.goBack(0), 8);
    }

    private static void told() {
        LooseHeap x = joined(8);
        for (int what : new int[] {-1, 11, MIN, MAX}) {
            due.is(9, "told(" + what + ")", x.told(what), LooseHeap.OUTSIDE);
        }
        told(x, 9, "of eight", 8, 8, 0, 1, 0, 3, 7, 0, 4, 0, 0);
        x.net(4);
        x.road(0, 1, 2);
        x.road(0, 1, 2);
        told(x, 9, "with a net", 8, 8, 0, 1, 0, 3, 7, 0, 4, 4, 2);
        x.tree(0, 0);
        x.ways(0, 0);
        told(x, 9, "after a tree: its links are its own", 8, 8, 0, 1, 0, 3, 7, 0, 4, 4, 2);
        x.lower(2, 50);
        x.lower(6, 60);
        told(x, 9, "the greatest rank", 8, 8, 2, 2, 0, 2, 8, 2, 3, 4, 2);
        x.drop(0);
        told(x, 9, "after drop(0)", 8, 7, 2, 3, 0, 2, 8, 2, 3, 4, 2);
        LooseHeap y = joined(8);
        y.drop(1);
        y.drop(2);
        due.is(9, "job(0, 4)", y.job(0, 4), 1);
        told(y, 9, "the greatest rank is not that of a root", 8, 6, 0, 2, 0, 2, 7, 2, 4);
    }

    private static void job() {
        LooseHeap x = joined(8);
        x.lower(7, 100);
        int[][] want = {
            {0, 100, 1, -1, 3, 0, 0, 8, Float.floatToIntBits(6.25f)},
            {1, 101, 1, 0, 0, 0, 1, 1, Float.floatToIntBits(6.3125f)},
            {0, 102, 1, 0, 1, 0, 1, 2, Float.floatToIntBits(6.375f)},
            {1, 103, 1, 2, 0, 0, 2, 1, Float.floatToIntBits(6.4375f)},
            {0, 104, 1, 0, 2, 0, 1, 4, Float.floatToIntBits(6.5f)},
            {1, 105, 1, 4, 0, 0, 2, 1, Float.floatToIntBits(6.5625f)},
            {0, 106, 1, 4, 1, 0, 2, 2, Float.floatToIntBits(6.625f)},
            {1, 100, 1, 6, 0, 1, 3, 1, Float.floatToIntBits(6.25f)}};
        for (int job = 0; job < 8; job++) {
            for (int what = 0; what < 9; what++) {
                due.is(10, "job(" + job + ", " + what + ")", x.job(job, what), want[job][what]);
            }
            due.is(10, "job(" + job + ", 9)", x.job(job, 9), LooseHeap.OUTSIDE);
            due.is(10, "job(" + job + ", -1)", x.job(job, -1), LooseHeap.OUTSIDE);
        }
        for (int number : new int[] {-1, 8, 40, MIN, MAX}) {
            due.is(10, "job(" + number + ", 0)", x.job(number, 0), LooseHeap.UNKNOWN);
            due.is(10, "job(" + number + ", 9)", x.job(number, 9), LooseHeap.UNKNOWN);
        }
        x.drop(4);
        int[] taken = {0, 104, 0, -1, 0, 0, 0, 0, Float.floatToIntBits(6.5f)};
        for (int what = 0; what < 9; what++) {
            due.is(10, "job(4, " + what + ") of a taken one", x.job(4, what), taken[what]);
        }
        x.drop(7);
        due.is(10, "job(7, 5) of a taken one that was loose", x.job(7, 5), 0);
        due.is(10, "job(7, 3)", x.job(7, 3), -1);
        due.is(10, "job(7, 6)", x.job(7, 6), 0);
    }

    private static void bitsOfKeys() {
        for (int key = 9999; key >= -9999; key--) {
            LooseHeap x = new LooseHeap();
            x.put(0, key);
            due.is(10, "job(0, 8) at key " + key, x.job(0, 8), Float.floatToIntBits(key / 16f));
            due.is(13, "bits() at key " + key, x.bits(), Double.doubleToLongBits(key / 16.0));
        }
    }

    private static void child() {
        LooseHeap x = joined(8);
        for (int number : new int[] {-1, 8, MIN, MAX}) {
            due.is(11, "child(" + number + ", 0)", x.child(number, 0), LooseHeap.UNKNOWN);
            due.is(11, "child(" + number + ", -1)", x.child(number, -1), LooseHeap.UNKNOWN);
        }
        due.is(11, "child(0, -1)", x.child(0, -1), LooseHeap.OUTSIDE);
        due.is(11, "child(0, MIN)", x.child(0, MIN), LooseHeap.OUTSIDE);
        due.is(11, "child(0, MAX)", x.child(0, MAX), -1);
        children(x, 11, 0, 1, 2, 4);
        children(x, 11, 4, 5, 6);
        children(x, 11, 7);
        x.drop(2);
        children(x, 11, 0, 1, 4);
        children(x, 11, 2);
        x.drop(0);
        due.is(11, "child(0, 0) of a taken one", x.child(0, 0), -1);
        due.is(11, "child(0, -1) of a taken one", x.child(0, -1), LooseHeap.OUTSIDE);
        children(x, 11, 1, 3);
    }

    private static void loose() {
        LooseHeap x = joined(16);
        due.is(12, "loose(-1)", x.loose(-1), LooseHeap.OUTSIDE);
        due.is(12, "loose(MIN)", x.loose(MIN), LooseHeap.OUTSIDE);
        for (int rank = 0; rank < 45; rank++) {
            due.is(12, "loose(" + rank + ") with none", x.loose(rank), -1);
        }
        x.lower(8, 99);
        x.lower(12, 98);
        x.lower(14, 97);
        x.lower(15, 96);
        int[] want = {15, 14, 12, 8, -1};
        for (int rank = 0; rank < want.length; rank++) {
            due.is(12, "loose(" + rank + ")", x.loose(rank), want[rank]);
        }
        due.is(12, "loose(MAX)", x.loose(MAX), -1);
        due.is(9, "told(4)", x.told(4), 4);
        x.take();
        due.is(12, "loose(0): 14, whose one child was taken", x.loose(0), 14);
        due.is(12, "loose(1)", x.loose(1), -1);
    }

    private static void bits() {
        LooseHeap x = new LooseHeap();
        due.is(13, "bits() of none", x.bits(), 0);
        x.put(0, 16);
        due.is(13, "bits() of 1", x.bits(), 0x3FF0000000000000L);
        x.put(1, -48);
        due.is(13, "bits() of -2", x.bits(), 0xC000000000000000L);
        x.put(1, 33);
        due.is(13, "bits() of 1 / 16", x.bits(), 0x3FB0000000000000L);
        x.drop(1);
        due.is(13, "bits() of 49 / 16: taken ones do not count", x.bits(), Double.doubleToLongBits(49 / 16.0));
        x.put(0, -49);
        due.is(13, "bits() of 0", x.bits(), 0);
        for (int sign = -1; sign <= 1; sign += 2) {
            x.clear();
            for (int job = 0; job < 40; job++) {
                x.put(0, sign * 9999);
                due.is(13, "bits() of " + (job + 1) + " like keys", x.bits(), Double.doubleToLongBits(sign * 9999 * (job + 1) / 16.0));
            }
        }
    }

    public static void main(String[] args) {
        put();
        lowerRefuses();
        lowerLoosens();
        settles();
        settlesOnAndOn();
        take();
        takeFrees();
        drop();
        join();
        clear();
        told();
        job();
        bitsOfKeys();
        child();
        loose();
        bits();
        due.end();
    }
}
