/** Promises 21 and 22: what an image keeps, and what it does not. */
public final class ImageTest {
    private static final Due due = new Due("ImageTest");

    private static String kept(LooseHeap x) {
        return State.ofHeap(x) + State.ofBenches(x);
    }

    private static LooseHeap made() {
        LooseHeap x = new LooseHeap();
        for (int job = 0; job < 16; job++) {
            x.put(job % 2, 100 + job);
        }
        x.join();
        x.lower(12, 50);
        x.lower(14, 40);
        x.lower(7, 30);
        x.take();
        x.sit(1, 5, 7);
        return x;
    }

    private static void refuses() {
        LooseHeap x = made();
        String before = State.of(x);
        for (int i : new int[] {-1, 2, Integer.MIN_VALUE, Integer.MAX_VALUE}) {
            due.is(21, "keep(" + i + ")", x.keep(i), LooseHeap.UNKNOWN);
            due.is(22, "goBack(" + i + ")", x.goBack(i), LooseHeap.UNKNOWN);
        }
        due.is(22, "goBack(0) before keep", x.goBack(0), LooseHeap.NOT);
        due.is(21, "keep(1)", x.keep(1), 16);
        due.is(22, "goBack(0): only 1 was kept", x.goBack(0), LooseHeap.NOT);
        due.holds(22, "keep, and what is refused, changes nothing", before.equals(State.of(x)));
    }

    private static void keeps() {
        LooseHeap x = made();
        String first = kept(x);
        due.is(21, "keep(0)", x.keep(0), 16);
        x.put(1, -5);
        x.drift(30, 77);
        x.sit(0, 0, 7);
        String second = kept(x);
        int jobs = x.told(0);
        due.is(21, "keep(1)", x.keep(1), jobs);
        due.is(22, "goBack(0)", x.goBack(0), 16);
        due.holds(22, "all is as image 0 kept it", first.equals(kept(x)));
        x.lower(15, -100);
        x.lower(5, -200);
        x.take();
        x.clear();
        x.put(0, 1);
        due.is(22, "goBack(1)", x.goBack(1), jobs);
        due.holds(22, "all is as image 1 kept it", second.equals(kept(x)));
        x.drift(40, 5);
        due.is(22, "goBack(1) again", x.goBack(1), jobs);
        due.holds(22, "image 1 is not touched by what came after", second.equals(kept(x)));
        due.is(22, "goBack(0) again", x.goBack(0), 16);
        due.holds(22, "nor is image 0", first.equals(kept(x)));
        x.clear();
        due.is(21, "keep(0) of no jobs", x.keep(0), 0);
        x.put(0, 1);
        due.is(22, "goBack(0) to no jobs", x.goBack(0), 0);
        due.is(22, "told(0)", x.told(0), 0);
        due.is(22, "sits(1, 5)", x.sits(1, 5), -1);
        due.is(22, "goBack(1) at last", x.goBack(1), jobs);
        due.holds(22, "all is as image 1 kept it", second.equals(kept(x)));
    }

    private static void keepsAsManyAsThereMayBe() {
        LooseHeap x = new LooseHeap();
        for (int job = 0; job < 40; job++) {
            x.put(job / 3 % 2, 500 - 7 * job);
        }
        x.join();
        x.take();
        String before = kept(x);
        due.is(21, "keep(0) of 40 jobs", x.keep(0), 40);
        x.clear();
        for (int job = 0; job < 40; job++) {
            x.put(1 - job / 3 % 2, job);
        }
        due.is(22, "goBack(0) to 40 jobs", x.goBack(0), 40);
        due.holds(22, "all 40 are as they were kept", before.equals(kept(x)));
    }

    /** What happens after goBack is what happened after keep. */
    private static void goesOnAlike() {
        LooseHeap x = made();
        x.keep(0);
        x.drift(40, 4711);
        String after = kept(x);
        x.clear();
        x.drift(20, 3);
        x.goBack(0);
        x.drift(40, 4711);
        due.holds(22, "from an image things go on as they did", after.equals(kept(x)));
    }

    private static void leavesTheNet() {
        LooseHeap x = made();
        x.net(4);
        x.road(0, 1, 5);
        x.keep(0);
        x.net(6);
        x.road(4, 5, 7);
        x.road(3, 5, 7);
        String net = State.ofNet(x);
        x.goBack(0);
        due.holds(22, "the net is in no image", net.equals(State.ofNet(x)));
        due.is(22, "told(9)", x.told(9), 6);
        due.is(22, "told(10)", x.told(10), 2);
    }

    public static void main(String[] args) {
        refuses();
        keeps();
        keepsAsManyAsThereMayBe();
        goesOnAlike();
        leavesTheNet();
        due.end();
    }
}
