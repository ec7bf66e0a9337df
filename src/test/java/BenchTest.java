/** Promises 14 and 15: who sits where. */
public final class BenchTest {
    private static final int MIN = Integer.MIN_VALUE;
    private static final int MAX = Integer.MAX_VALUE;
    private static final Due due = new Due("BenchTest");

    /** Jobs 0, 2, 4 .. are plain, 1, 3, 5 .. urgent; all but the last are taken. */
    private static LooseHeap taken(int n) {
        LooseHeap x = new LooseHeap();
        for (int job = 0; job < n; job++) {
            x.put(job % 2, job);
        }
        for (int job = 0; job < n - 1; job++) {
            x.take();
        }
        return x;
    }

    private static void refuses() {
        LooseHeap x = taken(5);
        x.sit(0, 0, 0);
        x.sit(1, 0, 1);
        String before = State.of(x);
        for (int bench : new int[] {-1, 2, MIN, MAX}) {
            due.is(14, "sit(" + bench + ", 0, 0)", x.sit(bench, 0, 0), LooseHeap.UNKNOWN);
            due.is(14, "sit(" + bench + ", 8, 4)", x.sit(bench, 8, 4), LooseHeap.UNKNOWN);
            due.is(15, "sits(" + bench + ", 0)", x.sits(bench, 0), LooseHeap.UNKNOWN);
            due.is(15, "sits(" + bench + ", 8)", x.sits(bench, 8), LooseHeap.UNKNOWN);
        }
        for (int job : new int[] {-1, 5, 40, MIN, MAX}) {
            due.is(14, "sit(0, 1, " + job + ")", x.sit(0, 1, job), LooseHeap.UNKNOWN);
            due.is(14, "sit(0, 9, " + job + ")", x.sit(0, 9, job), LooseHeap.UNKNOWN);
        }
        for (int place : new int[] {-1, 8, MIN, MAX}) {
            due.is(14, "sit(0, " + place + ", 0)", x.sit(0, place, 0), LooseHeap.PLACE);
            due.is(14, "sit(1, " + place + ", 0) of a plain one", x.sit(1, place, 0), LooseHeap.PLACE);
            due.is(14, "sit(0, " + place + ", 4) of one that stands", x.sit(0, place, 4), LooseHeap.NOT);
            due.is(15, "sits(0, " + place + ")", x.sits(0, place), LooseHeap.PLACE);
            due.is(15, "sits(1, " + place + ")", x.sits(1, place), LooseHeap.PLACE);
        }
        due.is(14, "sit(0, 0, 4) of one that stands", x.sit(0, 0, 4), LooseHeap.NOT);
        due.is(14, "sit(1, 0, 4) of one that stands and is plain", x.sit(1, 0, 4), LooseHeap.NOT);
        due.is(14, "sit(1, 0, 2) of a plain one", x.sit(1, 0, 2), LooseHeap.STORE);
        due.is(14, "sit(1, 0, 0) of a plain one that sits", x.sit(1, 0, 0), LooseHeap.STORE);
        due.holds(14, "a sit that is refused changes nothing", before.equals(State.of(x)));
    }

    private static void seats() {
        LooseHeap x = taken(40);
        for (int place = 0; place < 8; place++) {
            due.is(14, "sit(0, " + place + ", ..)", x.sit(0, place, place), -1);
            due.is(14, "sit(1, " + place + ", ..)", x.sit(1, place, 2 * place + 11), -1);
        }
        for (int place = 0; place < 8; place++) {
            due.is(15, "sits(0, " + place + ")", x.sits(0, place), place);
            due.is(15, "sits(1, " + place + ")", x.sits(1, place), 2 * place + 11);
        }
        due.is(14, "sit(0, 7, 0): who sat there sits nowhere", x.sit(0, 7, 0), 7);
        due.is(15, "sits(0, 7)", x.sits(0, 7), 0);
        due.is(15, "sits(0, 0)", x.sits(0, 0), -1);
        due.is(14, "sit(1, 3, 1): from one bench to the other", x.sit(1, 3, 1), 17);
        due.is(15, "sits(0, 1)", x.sits(0, 1), -1);
        due.is(15, "sits(1, 3)", x.sits(1, 3), 1);
        due.is(14, "sit(1, 3, 1): where it sits already", x.sit(1, 3, 1), 1);
        due.is(15, "sits(1, 3)", x.sits(1, 3), 1);
        due.is(14, "sit(0, 1, 17): who was sent away", x.sit(0, 1, 17), -1);
        due.is(14, "sit(0, 2, 17)", x.sit(0, 2, 17), 2);
        due.is(15, "sits(0, 1)", x.sits(0, 1), -1);
        for (int place = 0; place < 8; place++) {
            due.is(15, "sits(1, " + place + ")", x.sits(1, place), place == 3 ? 1 : 2 * place + 11);
        }
    }

    private static void jobsGoOn() {
        LooseHeap x = taken(3);
        x.sit(0, 4, 0);
        x.put(1, 7);
        x.drift(5, 3);
        due.is(15, "sits(0, 4) after other calls", x.sits(0, 4), 0);
        x.drop(2);
        due.is(14, "sit(0, 4, 2) of one that was dropped", x.sit(0, 4, 2), 0);
        due.is(10, "job(2, 2)", x.job(2, 2), 0);
    }

    public static void main(String[] args) {
        refuses();
        seats();
        jobsGoOn();
        due.end();
    }
}
