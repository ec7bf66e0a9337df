import java.util.Arrays;

/**
 * Jobs in trees below one another, with loose ones; benches for the taken ones; a net of places
 * with trees and ways grown by such a heap; lots and images. README.md says how it is used.
 */
public final class LooseHeap {
    public static final int NONE = -1, UNKNOWN = -1000000001, OUTSIDE = -1000000002, NOT = -1000000003, FULL = -1000000004, PLACE = -1000000011, STORE = -1000000012;

    private static final int MOST_JOBS = 40;
    private static final int PLAIN = 0;
    private static final int URGENT = 1;
    private static final int LAST_KEY = 9999;
    private static final int BENCHES = 2;
    private static final int URGENT_BENCH = 1;
    private static final int SEATS = 8;
    private static final int LEAST_PLACES = 2;
    private static final int MOST_PLACES = 8;
    private static final int MOST_ROADS = 14;
    private static final int MOST_WEIGHT = 9999;
    private static final int MOST_TURNS = 40;
    private static final int MOST_SEED = 999999;
    private static final int IMAGES = 2;

    private final Heap heap;
    private final Benches benches;
    private final Roads roads;
    private final Lots lots;
    private final Image[] images;

    public LooseHeap() {
        heap = new Heap(MOST_JOBS);
        benches = new Benches();
        roads = new Roads();
        lots = new Lots();
        images = new Image[IMAGES];
        for (int i = 0; i < IMAGES; i++) {
            images[i] = new Image();
        }
    }

    // ---- jobs

    public int put(int kind, int key) {
        if (!between(kind, PLAIN, URGENT) || !isKey(key)) {
            return OUTSIDE;
        }
        if (!heap.hasRoom()) {
            return FULL;
        }
        return heap.add(kind, key);
    }

    public int lower(int job, int key) {
        if (!heap.has(job)) {
            return UNKNOWN;
        }
        if (!isKey(key)) {
            return OUTSIDE;
        }
        if (!heap.isStanding(job) || key >= heap.keyOf(job)) {
            return NOT;
        }
        heap.lowerTo(job, key);
        return flag(heap.isLoose(job));
    }

    public int take() {
        int soonest = heap.soonest();
        if (soonest == NONE) {
            return NOT;
        }
        heap.takeOut(soonest);
        return soonest;
    }

    public int drop(int job) {
        if (!heap.has(job)) {
            return UNKNOWN;
        }
        if (!heap.isStanding(job)) {
            return NOT;
        }
        heap.takeOut(job);
        return heap.standingCount();
    }

    public int join() {
        return heap.joinAll();
    }

    public int clear() {
        int before = heap.count();
        heap.empty();
        benches.empty();
        return before;
    }

    public int drift(int n, int seed) {
        if (!between(n, 1, MOST_TURNS) || !between(seed, 1, MOST_SEED)) {
            return OUTSIDE;
        }
        lots.begin(seed);
        for (int turn = 0; turn < n; turn++) {
            driftOnce();
        }
        return heap.standingCount();
    }

    public int told(int what) {
        switch (what) {
            case 0: return heap.count();
            case 1: return heap.standingCount();
            case 2: return heap.soonest();
            case 3: return heap.rootCount();
            case 4: return heap.looseCount();
            case 5: return heap.greatestRank();
            case 6: return heap.links();
            case 7: return heap.cuts();
            case 8: return heap.longestRow();
            case 9: return roads.places();
            case 10: return roads.count();
            default: return OUTSIDE;
        }
    }

    public int job(int job, int what) {
        if (!heap.has(job)) {
            return UNKNOWN;
        }
        switch (what) {
            case 0: return heap.kindOf(job);
            case 1: return heap.keyOf(job);
            case 2: return flag(heap.isStanding(job));
            case 3: return heap.aboveOf(job);
            case 4: return heap.rankOf(job);
            case 5: return flag(heap.isLoose(job));
            case 6: return heap.depthOf(job);
            case 7: return heap.sizeOf(job);
            case 8: return (int) Floats.bitsOf(heap.keyOf(job), Floats.SINGLE_POWER, Floats.SINGLE_FRACTION);
            default: return OUTSIDE;
        }
    }

    public int child(int job, int k) {
        if (!heap.has(job)) {
            return UNKNOWN;
        }
        if (k < 0) {
            return OUTSIDE;
        }
        return heap.childAt(job, k);
    }

    public int loose(int rank) {
        if (rank < 0) {
            return OUTSIDE;
        }
        return heap.looseOfRank(rank);
    }

    public long bits() {
        return Floats.bitsOf(heap.sumOfKeys(), Floats.DOUBLE_POWER, Floats.DOUBLE_FRACTION);
    }

    // ---- benches

    public int sit(int bench, int place, int job) {
        if (!between(bench, 0, BENCHES - 1) || !heap.has(job)) {
            return UNKNOWN;
        }
        if (heap.isStanding(job)) {
            return NOT;
        }
        if (!between(place, 0, SEATS - 1)) {
            return PLACE;
        }
        if (bench == URGENT_BENCH && heap.kindOf(job) != URGENT) {
            return STORE;
        }
        return benches.seat(bench, place, job);
    }

    public int sits(int bench, int place) {
        if (!between(bench, 0, BENCHES - 1)) {
            return UNKNOWN;
        }
        if (!between(place, 0, SEATS - 1)) {
            return PLACE;
        }
        return benches.sitter(bench, place);
    }

    // ---- the net

    public int net(int n) {
        if (!between(n, LEAST_PLACES, MOST_PLACES)) {
            return OUTSIDE;
        }
        int before = roads.count();
        roads.layOut(n);
        return before;
    }

    public int road(int a, int b, int weight) {
        if (!roads.hasPlace(a) || !roads.hasPlace(b) || a == b) {
            return UNKNOWN;
        }
        if (!between(weight, 0, MOST_WEIGHT)) {
            return OUTSIDE;
        }
        if (!roads.hasRoom()) {
            return FULL;
        }
        return roads.add(a, b, weight);
    }

    public int tree(int from, int what) {
        if (!roads.hasPlace(from)) {
            return UNKNOWN;
        }
        if (!between(what, 0, 4)) {
            return OUTSIDE;
        }
        roads.grow(from, false);
        switch (what) {
            case 0: return roads.weightOfTree();
            case 1: return roads.roadsOfTree();
            case 2: return roads.links();
            case 3: return roads.cuts();
            default: return roads.lowerings();
        }
    }

    public int way(int from, int to) {
        if (!roads.hasPlace(from) || !roads.hasPlace(to)) {
            return UNKNOWN;
        }
        roads.grow(from, true);
        return roads.distanceTo(to);
    }

    public int ways(int from, int what) {
        if (!roads.hasPlace(from)) {
            return UNKNOWN;
        }
        if (!between(what, 0, 3)) {
            return OUTSIDE;
        }
        roads.grow(from, true);
        switch (what) {
            case 0: return roads.links();
            case 1: return roads.cuts();
            case 2: return roads.lowerings();
            default: return roads.reachedCount();
        }
    }

    // ---- images

    public int keep(int i) {
        if (!between(i, 0, IMAGES - 1)) {
            return UNKNOWN;
        }
        images[i].store(heap, benches);
        return heap.count();
    }

    public int goBack(int i) {
        if (!between(i, 0, IMAGES - 1)) {
            return UNKNOWN;
        }
        if (!images[i].isKept()) {
            return NOT;
        }
        images[i].restore(heap, benches);
        return heap.count();
    }

    private void driftOnce() {
        int lot = lots.draw(4);
        if (lot < 2) {
            putByLots();
        } else if (lot == 2) {
            lowerByLots();
        } else {
            takeByLots();
        }
    }

    private void putByLots() {
        if (heap.hasRoom()) {
            int kind = lots.draw(2);
            int key = lots.draw(1000);
            heap.add(kind, key);
        }
    }

    private void lowerByLots() {
        int standing = heap.standingCount();
        if (standing > 0) {
            int job = heap.standingAt(lots.draw(standing));
            int less = lots.draw(100);
            if (job != NONE && less > 0 && isKey(heap.keyOf(job) - less)) {
                heap.lowerTo(job, heap.keyOf(job) - less);
            }
        }
    }

    private void takeByLots() {
        int soonest = heap.soonest();
        if (soonest != NONE) {
            heap.takeOut(soonest);
        }
    }

    private static boolean between(int number, int least, int most) {
        return number >= least && number <= most;
    }

    private static boolean isKey(int key) {
        return between(key, -LAST_KEY, LAST_KEY);
    }

    private static int flag(boolean so) {
        return so ? 1 : 0;
    }

    /**
     * The trees. Callers ask has() or hasRoom() first; below that, numbers come from the rows themselves.
     * What stands beside a root is left as it was: it is written anew when the root comes below another one.
     */
    private static final class Heap {
        private final int room;
        private final int[] kinds;
        private final int[] keys;
        private final int[] above;
        private final int[] ranks;
        private final int[] firstBelow;
        private final int[] nextBeside;
        private final boolean[] standing;
        private final boolean[] loosened;
        private final int[] firstOfRank;
        private int count;
        private int linked;
        private int cut;
        private int pairLesser;
        private int pairGreater;

        Heap(int room) {
            this.room = room;
            kinds = new int[room];
            keys = new int[room];
            above = new int[room];
            ranks = new int[room];
            firstBelow = new int[room];
            nextBeside = new int[room];
            standing = new boolean[room];
            loosened = new boolean[room];
            firstOfRank = new int[room];
        }

        void empty() {
            count = 0;
            linked = 0;
            cut = 0;
        }

        void copyFrom(Heap other) {
            int most = Math.min(other.count, room);
            count = most;
            linked = other.linked;
            cut = other.cut;
            for (int job = 0; job < most; job++) {
                kinds[job] = other.kinds[job];
                keys[job] = other.keys[job];
                above[job] = other.above[job];
                ranks[job] = other.ranks[job];
                firstBelow[job] = other.firstBelow[job];
                nextBeside[job] = other.nextBeside[job];
                standing[job] = other.standing[job];
                loosened[job] = other.loosened[job];
            }
        }

        boolean hasRoom() {
            return count < room;
        }

        boolean has(int job) {
            return job >= 0 && job < count;
        }

        int add(int kind, int key) {
            if (!hasRoom()) {
                return FULL;
            }
            int job = count;
            count++;
            kinds[job] = kind;
            keys[job] = key;
            above[job] = NONE;
            ranks[job] = 0;
            firstBelow[job] = NONE;
            standing[job] = true;
            loosened[job] = false;
            return job;
        }

        void lowerTo(int job, int key) {
            keys[job] = key;
            if (above[job] != NONE && isSooner(job, above[job])) {
                loosened[job] = true;
                settleAll();
            }
        }

        void takeOut(int job) {
            if (above[job] != NONE) {
                cutOff(job);
            }
            freeChildren(job);
            standing[job] = false;
            settleAll();
            joinAll();
        }

        int joinAll() {
            int before = linked;
            for (int round = 0; round < room && findPair(false); round++) {
                linkTwo(pairLesser, pairGreater);
            }
            return linked - before;
        }

        private void settleAll() {
            for (int round = 0; round < room && findPair(true); round++) {
                cutOff(pairLesser);
                cutOff(pairGreater);
                linkTwo(pairLesser, pairGreater);
            }
        }

        /** Of the least rank that two loose jobs (or two roots) share, the two of the least numbers. */
        private boolean findPair(boolean amongLoose) {
            Arrays.fill(firstOfRank, NONE);
            int leastRank = room;
            for (int job = 0; job < count; job++) {
                if (amongLoose ? loosened[job] : isRoot(job)) {
                    int rank = ranks[job];
                    if (firstOfRank[rank] == NONE) {
                        firstOfRank[rank] = job;
                    } else if (rank < leastRank) {
                        leastRank = rank;
                        pairLesser = firstOfRank[rank];
                        pairGreater = job;
                    }
                }
            }
            return leastRank < room;
        }

        private void linkTwo(int one, int other) {
            int upper = isSooner(one, other) ? one : other;
            int under = upper == one ? other : one;
            int last = besideBefore(upper, NONE);
            if (last == NONE) {
                firstBelow[upper] = under;
            } else {
                nextBeside[last] = under;
            }
            nextBeside[under] = NONE;
            above[under] = upper;
            ranks[upper]++;
            linked++;
        }

        private void cutOff(int job) {
            int upper = above[job];
            if (upper == NONE) {
                return;
            }
            int before = besideBefore(upper, job);
            if (before == NONE) {
                firstBelow[upper] = nextBeside[job];
            } else {
                nextBeside[before] = nextBeside[job];
            }
            ranks[upper]--;
            makeRoot(job);
            cut++;
        }

        private void freeChildren(int job) {
            int at = firstBelow[job];
            for (int step = 0; step < room && at != NONE; step++) {
                int next = nextBeside[at];
                makeRoot(at);
                at = next;
            }
            firstBelow[job] = NONE;
            ranks[job] = 0;
        }

        private void makeRoot(int job) {
            above[job] = NONE;
            loosened[job] = false;
        }

        /** The child that comes just ahead of another one (of NONE: the last); NONE: no child does. */
        private int besideBefore(int upper, int job) {
            int before = NONE;
            int at = firstBelow[upper];
            for (int step = 0; step < room && at != NONE && at != job; step++) {
                before = at;
                at = nextBeside[at];
            }
            return before;
        }

        private boolean isSooner(int one, int other) {
            return keys[one] < keys[other] || (keys[one] == keys[other] && one < other);
        }

        private boolean isRoot(int job) {
            return standing[job] && above[job] == NONE;
        }

        int count() {
            return count;
        }

        int links() {
            return linked;
        }

        int cuts() {
            return cut;
        }

        int kindOf(int job) {
            return kinds[job];
        }

        int keyOf(int job) {
            return keys[job];
        }

        int aboveOf(int job) {
            return above[job];
        }

        int rankOf(int job) {
            return ranks[job];
        }

        boolean isStanding(int job) {
            return standing[job];
        }

        boolean isLoose(int job) {
            return loosened[job];
        }

        int soonest() {
            int best = NONE;
            for (int job = 0; job < count; job++) {
                if (standing[job] && (best == NONE || isSooner(job, best))) {
                    best = job;
                }
            }
            return best;
        }

        int standingCount() {
            int found = 0;
            for (int job = 0; job < count; job++) {
                if (standing[job]) {
                    found++;
                }
            }
            return found;
        }

        int standingAt(int k) {
            int left = k;
            for (int job = 0; job < count; job++) {
                if (standing[job]) {
                    if (left == 0) {
                        return job;
                    }
                    left--;
                }
            }
            return NONE;
        }

        int rootCount() {
            int found = 0;
            for (int job = 0; job < count; job++) {
                if (isRoot(job)) {
                    found++;
                }
            }
            return found;
        }

        int looseCount() {
            int found = 0;
            for (int job = 0; job < count; job++) {
                if (loosened[job]) {
                    found++;
                }
            }
            return found;
        }

        int looseOfRank(int rank) {
            for (int job = 0; job < count; job++) {
                if (loosened[job] && ranks[job] == rank) {
                    return job;
                }
            }
            return NONE;
        }

        int greatestRank() {
            int greatest = NONE;
            for (int job = 0; job < count; job++) {
                if (standing[job]) {
                    greatest = Math.max(greatest, ranks[job]);
                }
            }
            return greatest;
        }

        int longestRow() {
            int longest = 0;
            for (int job = 0; job < count; job++) {
                if (standing[job]) {
                    longest = Math.max(longest, depthOf(job) + 1);
                }
            }
            return longest;
        }

        int depthOf(int job) {
            int depth = 0;
            int at = above[job];
            while (depth < room && at != NONE) {
                depth++;
                at = above[at];
            }
            return depth;
        }

        int sizeOf(int job) {
            int size = 0;
            for (int other = 0; other < count; other++) {
                if (standing[other] && isWithin(other, job)) {
                    size++;
                }
            }
            return size;
        }

        private boolean isWithin(int job, int upper) {
            int at = job;
            for (int step = 0; step < room && at != NONE && at != upper; step++) {
                at = above[at];
            }
            return at == upper;
        }

        int childAt(int job, int k) {
            if (k >= ranks[job]) {
                return NONE;
            }
            int at = firstBelow[job];
            for (int step = 0; step < k && at != NONE; step++) {
                at = nextBeside[at];
            }
            return at;
        }

        int sumOfKeys() {
            int sum = 0;
            for (int job = 0; job < count; job++) {
                if (standing[job]) {
                    sum += keys[job];
                }
            }
            return sum;
        }
    }

    /** Who sits where: the benches' places in one row. */
    private static final class Benches {
        private final int[] sitters;

        Benches() {
            sitters = new int[BENCHES * SEATS];
            Arrays.fill(sitters, NONE);
        }

        void empty() {
            Arrays.fill(sitters, NONE);
        }

        void copyFrom(Benches other) {
            System.arraycopy(other.sitters, 0, sitters, 0, BENCHES * SEATS);
        }

        int sitter(int bench, int place) {
            return sitters[bench * SEATS + place];
        }

        int seat(int bench, int place, int job) {
            int before = sitter(bench, place);
            for (int i = 0; i < BENCHES * SEATS; i++) {
                if (sitters[i] == job) {
                    sitters[i] = NONE;
                }
            }
            sitters[bench * SEATS + place] = job;
            return before;
        }
    }

    /** The net, and the heap that grows trees and ways over it; its answers are those of the last grow(). */
    private static final class Roads {
        private final int[] oneEnd;
        private final int[] otherEnd;
        private final int[] weights;
        private final int[] hangsBy;
        private final Heap front;
        private int places;
        private int count;
        private int lowered;

        Roads() {
            oneEnd = new int[MOST_ROADS];
            otherEnd = new int[MOST_ROADS];
            weights = new int[MOST_ROADS];
            hangsBy = new int[MOST_PLACES];
            front = new Heap(MOST_PLACES);
        }

        void layOut(int n) {
            places = n;
            count = 0;
        }

        boolean hasRoom() {
            return count < MOST_ROADS;
        }

        boolean hasPlace(int place) {
            return place >= 0 && place < places;
        }

        int add(int a, int b, int weight) {
            if (!hasRoom()) {
                return FULL;
            }
            int road = count;
            count++;
            oneEnd[road] = a;
            otherEnd[road] = b;
            weights[road] = weight;
            return road;
        }

        int places() {
            return places;
        }

        int count() {
            return count;
        }

        void grow(int from, boolean summing) {
            begin(from);
            for (int turn = 0; turn < places; turn++) {
                int place = front.soonest();
                if (place == NONE) {
                    return;
                }
                front.takeOut(place);
                if (isReached(place)) {
                    spread(place, summing ? front.keyOf(place) : 0);
                }
            }
        }

        private void begin(int from) {
            lowered = 0;
            front.empty();
            Arrays.fill(hangsBy, NONE);
            for (int place = 0; place < places; place++) {
                front.add(PLAIN, place == from ? 0 : LAST_KEY);
            }
        }

        private void spread(int place, int base) {
            for (int road = 0; road < count; road++) {
                int next = acrossFrom(road, place);
                int key = base + weights[road];
                if (next != NONE && front.isStanding(next) && key < front.keyOf(next)) {
                    front.lowerTo(next, key);
                    hangsBy[next] = road;
                    lowered++;
                }
            }
        }

        private int acrossFrom(int road, int place) {
            if (oneEnd[road] == place) {
                return otherEnd[road];
            }
            return otherEnd[road] == place ? oneEnd[road] : NONE;
        }

        private boolean isReached(int place) {
            return front.keyOf(place) < LAST_KEY;
        }

        int weightOfTree() {
            int sum = 0;
            for (int place = 0; place < places; place++) {
                if (hangsBy[place] != NONE) {
                    sum += weights[hangsBy[place]];
                }
            }
            return sum;
        }

        int roadsOfTree() {
            int set = 0;
            for (int place = 0; place < places; place++) {
                if (hangsBy[place] != NONE) {
                    set |= 1 << hangsBy[place];
                }
            }
            return set;
        }

        int links() {
            return front.links();
        }

        int cuts() {
            return front.cuts();
        }

        int lowerings() {
            return lowered;
        }

        int distanceTo(int place) {
            return isReached(place) ? front.keyOf(place) : NONE;
        }

        int reachedCount() {
            int found = 0;
            for (int place = 0; place < places; place++) {
                if (isReached(place)) {
                    found++;
                }
            }
            return found;
        }
    }

    /** What an image keeps; its rows are made once and written over. */
    private static final class Image {
        private final Heap heap;
        private final Benches benches;
        private boolean kept;

        Image() {
            heap = new Heap(MOST_JOBS);
            benches = new Benches();
        }

        boolean isKept() {
            return kept;
        }

        void store(Heap fromHeap, Benches fromBenches) {
            heap.copyFrom(fromHeap);
            benches.copyFrom(fromBenches);
            kept = true;
        }

        void restore(Heap toHeap, Benches toBenches) {
            toHeap.copyFrom(heap);
            toBenches.copyFrom(benches);
        }
    }

    /** The numbers of a seed, one for each that is wanted. */
    private static final class Lots {
        private static final long FACTOR = 16807L;
        private static final long MODULUS = 2147483647L;

        private long number;

        void begin(int seed) {
            number = seed;
        }

        int draw(int by) {
            number = number * FACTOR % MODULUS;
            return by < 1 ? 0 : (int) (number % by);
        }
    }

    /** Numbers in sixteenths as the bits of floating ones, put together by hand. */
    private static final class Floats {
        private static final int SINGLE_POWER = 8;
        private static final int SINGLE_FRACTION = 23;
        private static final int DOUBLE_POWER = 11;
        private static final int DOUBLE_FRACTION = 52;
        private static final int POWER_OF_SIXTEENTH = -4;
        private static final int TOP_BIT_BOUND = 20;

        /** Below 2 to the 20th every number has all its bits in either fraction, so nothing is rounded. */
        static long bitsOf(int sixteenths, int powerBits, int fractionBits) {
            if (sixteenths == 0) {
                return 0L;
            }
            long size = Math.abs((long) sixteenths);
            int top = 0;
            for (int bit = 0; bit < TOP_BIT_BOUND; bit++) {
                if ((size >> bit) != 0L) {
                    top = bit;
                }
            }
            long sign = sixteenths < 0 ? 1L : 0L;
            long power = top + POWER_OF_SIXTEENTH + (1L << (powerBits - 1)) - 1L;
            long fraction = (size - (1L << top)) << (fractionBits - top);
            return (sign << (powerBits + fractionBits)) | (power << fractionBits) | fraction;
        }
    }
}
