import java.util.ArrayList;
import java.util.HashMap;
import java.util.List;
import java.util.Map;
import java.util.TreeMap;

/** The document again, told with lists and objects and without a thought for room or speed. */
final class Twin {
    static final int NONE = -1;
    static final int UNKNOWN = -1000000001;
    static final int OUTSIDE = -1000000002;
    static final int NOT = -1000000003;
    static final int FULL = -1000000004;
    static final int PLACE = -1000000011;
    static final int STORE = -1000000012;

    static final class Job {
        int number;
        int kind;
        int key;
        boolean stands = true;
        boolean loose = false;
        Job parent = null;
        List<Job> children = new ArrayList<>();

        boolean soonerThan(Job other) {
            return key != other.key ? key < other.key : number < other.number;
        }

        int size() {
            int sum = 1;
            for (Job child : children) {
                sum += child.size();
            }
            return sum;
        }

        int height() {
            int most = 0;
            for (Job child : children) {
                most = Math.max(most, child.height());
            }
            return most + 1;
        }

        int depth() {
            return parent == null ? 0 : parent.depth() + 1;
        }
    }

    static final class Trees {
        List<Job> jobs = new ArrayList<>();
        int links = 0;
        int cuts = 0;

        Job put(int kind, int key) {
            Job job = new Job();
            job.number = jobs.size();
            job.kind = kind;
            job.key = key;
            jobs.add(job);
            return job;
        }

        List<Job> standing() {
            List<Job> found = new ArrayList<>();
            for (Job job : jobs) {
                if (job.stands) {
                    found.add(job);
                }
            }
            return found;
        }

        List<Job> roots() {
            List<Job> found = standing();
            found.removeIf(job -> job.parent != null);
            return found;
        }

        List<Job> loose() {
            List<Job> found = standing();
            found.removeIf(job -> !job.loose);
            return found;
        }

        /** As the document begins: the soonest is among the roots and the loose ones. */
        Job soonest() {
            List<Job> among = roots();
            among.addAll(loose());
            Job best = null;
            for (Job job : among) {
                if (best == null || job.soonerThan(best)) {
                    best = job;
                }
            }
            return best;
        }

        void link(Job a, Job b) {
            Job upper = a.soonerThan(b) ? a : b;
            Job under = upper == a ? b : a;
            under.parent = upper;
            upper.children.add(under);
            links++;
        }

        void cut(Job job) {
            job.parent.children.remove(job);
            job.parent = null;
            job.loose = false;
            cuts++;
        }

        static List<Job> twoOfLeastRank(List<Job> among) {
            TreeMap<Integer, List<Job>> byRank = new TreeMap<>();
            for (Job job : among) {
                byRank.computeIfAbsent(job.children.size(), rank -> new ArrayList<>()).add(job);
            }
            for (List<Job> like : byRank.values()) {
                if (like.size() > 1) {
                    return like.subList(0, 2);
                }
            }
            return null;
        }

        void settle() {
            for (List<Job> two = twoOfLeastRank(loose()); two != null; two = twoOfLeastRank(loose())) {
                cut(two.get(0));
                cut(two.get(1));
                link(two.get(0), two.get(1));
            }
        }

        int join() {
            int before = links;
            for (List<Job> two = twoOfLeastRank(roots()); two != null; two = twoOfLeastRank(roots())) {
                link(two.get(0), two.get(1));
            }
            return links - before;
        }

        void lower(Job job, int key) {
            job.key = key;
            if (job.parent != null && job.soonerThan(job.parent)) {
                job.loose = true;
                settle();
            }
        }

        void take(Job job) {
            if (job.parent != null) {
                cut(job);
            }
            for (Job child : job.children) {
                child.parent = null;
                child.loose = false;
            }
            job.children.clear();
            job.stands = false;
            settle();
            join();
        }

        Trees copy() {
            Trees other = new Trees();
            other.links = links;
            other.cuts = cuts;
            for (Job job : jobs) {
                Job same = other.put(job.kind, job.key);
                same.stands = job.stands;
                same.loose = job.loose;
            }
            for (Job job : jobs) {
                for (Job child : job.children) {
                    other.jobs.get(job.number).children.add(other.jobs.get(child.number));
                    other.jobs.get(child.number).parent = other.jobs.get(job.number);
                }
            }
            return other;
        }
    }

    private Trees trees = new Trees();
    private Map<Integer, Integer> seats = new HashMap<>();
    private final Trees[] keptTrees = new Trees[2];
    private final List<Map<Integer, Integer>> keptSeats = new ArrayList<>(List.of(Map.of(), Map.of()));
    private int places = 0;
    private final List<int[]> roads = new ArrayList<>();
    private long lot = 0;

    private boolean has(int job) {
        return job >= 0 && job < trees.jobs.size();
    }

    private static boolean in(int number, int least, int most) {
        return least <= number && number <= most;
    }

    int put(int kind, int key) {
        if (!in(kind, 0, 1) || !in(key, -9999, 9999)) {
            return OUTSIDE;
        }
        return trees.jobs.size() == 40 ? FULL : trees.put(kind, key).number;
    }

    int lower(int number, int key) {
        if (!has(number)) {
            return UNKNOWN;
        }
        if (!in(key, -9999, 9999)) {
            return OUTSIDE;
        }
        Job job = trees.jobs.get(number);
        if (!job.stands || key >= job.key) {
            return NOT;
        }
        trees.lower(job, key);
        return job.loose ? 1 : 0;
    }

    int take() {
        Job job = trees.soonest();
        if (job == null) {
            return NOT;
        }
        trees.take(job);
        return job.number;
    }

    int drop(int number) {
        if (!has(number)) {
            return UNKNOWN;
        }
        Job job = trees.jobs.get(number);
        if (!job.stands) {
            return NOT;
        }
        trees.take(job);
        return trees.standing().size();
    }

    int join() {
        return trees.join();
    }

    int clear() {
        int before = trees.jobs.size();
        trees = new Trees();
        seats = new HashMap<>();
        return before;
    }

    private int wanted(int by) {
        lot = lot * 16807 % 2147483647;
        return (int) (lot % by);
    }

    int drift(int n, int seed) {
        if (!in(n, 1, 40) || !in(seed, 1, 999999)) {
            return OUTSIDE;
        }
        lot = seed;
        for (int i = 0; i < n; i++) {
            int lotOfFour = wanted(4);
            List<Job> standing = trees.standing();
            if (lotOfFour < 2 && trees.jobs.size() < 40) {
                int kind = wanted(2);
                trees.put(kind, wanted(1000));
            } else if (lotOfFour == 2 && !standing.isEmpty()) {
                Job job = standing.get(wanted(standing.size()));
                int less = wanted(100);
                if (less > 0 && job.key - less >= -9999) {
                    trees.lower(job, job.key - less);
                }
            } else if (lotOfFour == 3 && !standing.isEmpty()) {
                trees.take(trees.soonest());
            }
        }
        return trees.standing().size();
    }

    int told(int what) {
        List<Job> standing = trees.standing();
        int most = 0;
        switch (what) {
            case 0: return trees.jobs.size();
            case 1: return standing.size();
            case 2: return trees.soonest() == null ? NONE : trees.soonest().number;
            case 3: return trees.roots().size();
            case 4: return trees.loose().size();
            case 5:
                most = NONE;
                for (Job job : standing) {
                    most = Math.max(most, job.children.size());
                }
                return most;
            case 6: return trees.links;
            case 7: return trees.cuts;
            case 8:
                for (Job job : trees.roots()) {
                    most = Math.max(most, job.height());
                }
                return most;
            case 9: return places;
            case 10: return roads.size();
            default: return OUTSIDE;
        }
    }

    int job(int number, int what) {
        if (!has(number)) {
            return UNKNOWN;
        }
        Job job = trees.jobs.get(number);
        switch (what) {
            case 0: return job.kind;
            case 1: return job.key;
            case 2: return job.stands ? 1 : 0;
            case 3: return job.parent == null ? NONE : job.parent.number;
            case 4: return job.stands ? job.children.size() : 0;
            case 5: return job.loose ? 1 : 0;
            case 6: return job.stands ? job.depth() : 0;
            case 7: return job.stands ? job.size() : 0;
            case 8: return Float.floatToIntBits(job.key / 16.0f);
            default: return OUTSIDE;
        }
    }

    int child(int number, int k) {
        if (!has(number)) {
            return UNKNOWN;
        }
        if (k < 0) {
            return OUTSIDE;
        }
        List<Job> children = trees.jobs.get(number).children;
        return k < children.size() ? children.get(k).number : NONE;
    }

    int loose(int rank) {
        if (rank < 0) {
            return OUTSIDE;
        }
        for (Job job : trees.loose()) {
            if (job.children.size() == rank) {
                return job.number;
            }
        }
        return NONE;
    }

    long bits() {
        double sum = 0;
        for (Job job : trees.standing()) {
            sum += job.key / 16.0;
        }
        return sum == 0 ? 0 : Double.doubleToLongBits(sum);
    }

    int sit(int bench, int place, int number) {
        if (!in(bench, 0, 1) || !has(number)) {
            return UNKNOWN;
        }
        if (trees.jobs.get(number).stands) {
            return NOT;
        }
        if (!in(place, 0, 7)) {
            return PLACE;
        }
        if (bench == 1 && trees.jobs.get(number).kind == 0) {
            return STORE;
        }
        int before = sits(bench, place);
        seats.values().removeIf(sitter -> sitter == number);
        seats.put(bench * 100 + place, number);
        return before;
    }

    int sits(int bench, int place) {
        if (!in(bench, 0, 1)) {
            return UNKNOWN;
        }
        return in(place, 0, 7) ? seats.getOrDefault(bench * 100 + place, NONE) : PLACE;
    }

    int net(int n) {
        if (!in(n, 2, 8)) {
            return OUTSIDE;
        }
        int before = roads.size();
        places = n;
        roads.clear();
        return before;
    }

    private boolean isPlace(int place) {
        return in(place, 0, places - 1);
    }

    int road(int a, int b, int weight) {
        if (!isPlace(a) || !isPlace(b) || a == b) {
            return UNKNOWN;
        }
        if (!in(weight, 0, 9999)) {
            return OUTSIDE;
        }
        if (roads.size() == 14) {
            return FULL;
        }
        roads.add(new int[] {a, b, weight});
        return roads.size() - 1;
    }

    /** What growing from a place comes to: 0 weight, 1 roads, 2 links, 3 cuts, 4 lowered, 5 reached, then distances. */
    private int[] grown(int from, boolean ways) {
        Trees own = new Trees();
        for (int place = 0; place < places; place++) {
            own.put(0, place == from ? 0 : 9999);
        }
        Map<Integer, Integer> hangs = new HashMap<>();
        int[] answers = new int[6 + places];
        for (Job taken = own.soonest(); taken != null; taken = own.soonest()) {
            own.take(taken);
            answers[6 + taken.number] = taken.key < 9999 ? taken.key : NONE;
            if (taken.key < 9999) {
                answers[5]++;
                for (int road = 0; road < roads.size(); road++) {
                    int[] of = roads.get(road);
                    if (of[0] != taken.number && of[1] != taken.number) {
                        continue;
                    }
                    Job next = own.jobs.get(of[0] + of[1] - taken.number);
                    int key = of[2] + (ways ? taken.key : 0);
                    if (next.stands && key < next.key) {
                        own.lower(next, key);
                        hangs.put(next.number, road);
                        answers[4]++;
                    }
                }
            }
        }
        for (int road : hangs.values()) {
            answers[0] += roads.get(road)[2];
            answers[1] |= 1 << road;
        }
        answers[2] = own.links;
        answers[3] = own.cuts;
        return answers;
    }

    int tree(int from, int what) {
        if (!isPlace(from)) {
            return UNKNOWN;
        }
        return in(what, 0, 4) ? grown(from, false)[what] : OUTSIDE;
    }

    int way(int from, int to) {
        return isPlace(from) && isPlace(to) ? grown(from, true)[6 + to] : UNKNOWN;
    }

    int ways(int from, int what) {
        if (!isPlace(from)) {
            return UNKNOWN;
        }
        return in(what, 0, 3) ? grown(from, true)[2 + what] : OUTSIDE;
    }

    int keep(int i) {
        if (!in(i, 0, 1)) {
            return UNKNOWN;
        }
        keptTrees[i] = trees.copy();
        keptSeats.set(i, new HashMap<>(seats));
        return trees.jobs.size();
    }

    int goBack(int i) {
        if (!in(i, 0, 1)) {
            return UNKNOWN;
        }
        if (keptTrees[i] == null) {
            return NOT;
        }
        trees = keptTrees[i].copy();
        seats = new HashMap<>(keptSeats.get(i));
        return trees.jobs.size();
    }
}
