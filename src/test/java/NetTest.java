import java.util.Random;

/** Promises 16 to 20: the net, its trees and its ways. */
public final class NetTest {
    private static final int MIN = Integer.MIN_VALUE;
    private static final int MAX = Integer.MAX_VALUE;
    private static final Due due = new Due("NetTest");

    private static void tree(LooseHeap x, int from, int... want) {
        for (int what = 0; what < want.length; what++) {
            due.is(18, "tree(" + from + ", " + what + ")", x.tree(from, what), want[what]);
        }
    }

    private static void ways(LooseHeap x, int from, int... want) {
        for (int what = 0; what < want.length; what++) {
            due.is(20, "ways(" + from + ", " + what + ")", x.ways(from, what), want[what]);
        }
    }

    private static void distances(LooseHeap x, int from, int... want) {
        for (int to = 0; to < want.length; to++) {
            due.is(19, "way(" + from + ", " + to + ")", x.way(from, to), want[to]);
        }
    }

    private static void net() {
        LooseHeap x = new LooseHeap();
        due.is(16, "net(2)", x.net(2), 0);
        due.is(16, "told(9)", x.told(9), 2);
        x.road(0, 1, 3);
        x.road(1, 0, 3);
        String before = State.of(x);
        for (int n : new int[] {1, 9, 0, -1, MIN, MAX}) {
            due.is(16, "net(" + n + ")", x.net(n), LooseHeap.OUTSIDE);
        }
        due.holds(16, "a net that is refused changes nothing", before.equals(State.of(x)));
        due.is(16, "net(8)", x.net(8), 2);
        due.is(16, "told(9)", x.told(9), 8);
        due.is(16, "told(10)", x.told(10), 0);
        due.is(16, "way(0, 1): no roads are left", x.way(0, 1), -1);
        due.is(16, "road(7, 6, 1)", x.road(7, 6, 1), 0);
        due.is(16, "net(2)", x.net(2), 1);
        due.is(16, "way(0, 2)", x.way(0, 2), LooseHeap.UNKNOWN);
    }

    private static void road() {
        LooseHeap x = new LooseHeap();
        due.is(17, "road(0, 1, 1) without a net", x.road(0, 1, 1), LooseHeap.UNKNOWN);
        x.net(4);
        for (int place : new int[] {-1, 4, 7, MIN, MAX}) {
            due.is(17, "road(" + place + ", 1, 1)", x.road(place, 1, 1), LooseHeap.UNKNOWN);
            due.is(17, "road(1, " + place + ", 1)", x.road(1, place, 1), LooseHeap.UNKNOWN);
            due.is(17, "road(1, " + place + ", -1)", x.road(1, place, -1), LooseHeap.UNKNOWN);
        }
        due.is(17, "road(2, 2, 1): one twice", x.road(2, 2, 1), LooseHeap.UNKNOWN);
        due.is(17, "road(2, 2, 10000)", x.road(2, 2, 10000), LooseHeap.UNKNOWN);
        for (int weight : new int[] {-1, 10000, MIN, MAX}) {
            due.is(17, "road(0, 1, " + weight + ")", x.road(0, 1, weight), LooseHeap.OUTSIDE);
        }
        due.is(17, "told(10) after roads that are refused", x.told(10), 0);
        for (int road = 0; road < 14; road++) {
            due.is(17, "road as the " + road + "th", x.road(road % 4, (road + 1) % 4, road % 2 == 0 ? 0 : 9999), road);
            due.is(17, "told(10)", x.told(10), road + 1);
        }
        String before = State.of(x);
        due.is(17, "road(0, 1, 1) as the 15th", x.road(0, 1, 1), LooseHeap.FULL);
        due.is(17, "road(0, 1, 10000) as the 15th", x.road(0, 1, 10000), LooseHeap.OUTSIDE);
        due.is(17, "road(0, 4, 1) as the 15th", x.road(0, 4, 1), LooseHeap.UNKNOWN);
        due.holds(17, "a road that is refused changes nothing", before.equals(State.of(x)));
        due.is(17, "net(4)", x.net(4), 14);
        due.is(17, "road(0, 1, 1) on the new net", x.road(0, 1, 1), 0);
    }

    private static void refuses() {
        LooseHeap x = new LooseHeap();
        x.net(3);
        for (int place : new int[] {-1, 3, 8, MIN, MAX}) {
            due.is(18, "tree(" + place + ", 0)", x.tree(place, 0), LooseHeap.UNKNOWN);
            due.is(18, "tree(" + place + ", 5)", x.tree(place, 5), LooseHeap.UNKNOWN);
            due.is(19, "way(" + place + ", 0)", x.way(place, 0), LooseHeap.UNKNOWN);
            due.is(19, "way(0, " + place + ")", x.way(0, place), LooseHeap.UNKNOWN);
            due.is(19, "way(" + place + ", " + place + ")", x.way(place, place), LooseHeap.UNKNOWN);
            due.is(20, "ways(" + place + ", 0)", x.ways(place, 0), LooseHeap.UNKNOWN);
            due.is(20, "ways(" + place + ", 4)", x.ways(place, 4), LooseHeap.UNKNOWN);
        }
        for (int what : new int[] {-1, 5, MIN, MAX}) {
            due.is(18, "tree(0, " + what + ")", x.tree(0, what), LooseHeap.OUTSIDE);
            due.is(20, "ways(0, " + what + ")", x.ways(0, what), LooseHeap.OUTSIDE);
        }
        due.is(20, "ways(0, 4)", x.ways(0, 4), LooseHeap.OUTSIDE);
    }

    /** Small nets whose heaps can be followed with a pencil. */
    private static void small() {
        LooseHeap x = new LooseHeap();
        x.net(2);
        tree(x, 0, 0, 0, 0, 0, 0);
        ways(x, 1, 0, 0, 0, 1);
        distances(x, 1, -1, 0);
        x.road(0, 1, 5);
        tree(x, 0, 5, 1, 0, 0, 1);
        ways(x, 1, 0, 0, 1, 2);
        distances(x, 1, 5, 0);
        x.net(3);
        tree(x, 0, 0, 0, 1, 0, 0);
        x.road(0, 2, 4);
        // 0 is taken, 1 and 2 are linked; 2 gets loose below 1 and is cut when it is taken.
        tree(x, 0, 4, 1, 1, 1, 1);
        ways(x, 0, 1, 1, 1, 2);
        // From 2, 1 stands below 0, which is lowered.
        tree(x, 2, 4, 1, 1, 0, 1);
        x.road(0, 2, 4);
        x.road(2, 0, 3);
        x.road(2, 0, 3);
        tree(x, 0, 3, 4, 1, 1, 2);
        ways(x, 0, 1, 1, 2, 2);
        distances(x, 0, 0, -1, 3);
    }

    /** Two loose places of rank 0 settle: three links when 0 is taken, then two cuts and a fourth link. */
    private static void settling() {
        LooseHeap x = new LooseHeap();
        x.net(5);
        x.road(0, 4, 3);
        x.road(0, 2, 2);
        // After 0 is taken: 1 above 2 and 3, 3 above 4. 4 gets loose, 2 too: both are cut, 4 comes below 2.
        tree(x, 0, 5, 3, 4, 2, 2);
        ways(x, 0, 4, 2, 2, 3);
        distances(x, 0, 0, -1, 2, -1, 3);
    }

    private static void bounds() {
        LooseHeap x = new LooseHeap();
        x.net(4);
        x.road(0, 1, 5000);
        x.road(1, 2, 4999);
        x.road(2, 3, 0);
        tree(x, 0, 9999, 7);
        distances(x, 0, 0, 5000, -1, -1);
        due.is(20, "ways(0, 2): 9999 is not below 9999", x.ways(0, 2), 1);
        due.is(20, "ways(0, 3)", x.ways(0, 3), 2);
        x.road(1, 2, 4998);
        distances(x, 0, 0, 5000, 9998, 9998);
        due.is(20, "ways(0, 3)", x.ways(0, 3), 4);
        x.net(4);
        x.road(0, 1, 9999);
        x.road(2, 3, 1);
        tree(x, 0, 0, 0, 2, 0, 0);
        tree(x, 2, 1, 2);
        distances(x, 2, -1, -1, 0, 1);
        due.is(20, "ways(0, 3)", x.ways(0, 3), 1);
        x.net(8);
        for (int place = 0; place < 7; place++) {
            x.road(place, place + 1, 9998);
        }
        tree(x, 3, 7 * 9998, 127);
        due.is(20, "ways(3, 3)", x.ways(3, 3), 3);
    }

    private static int find(int[] group, int place) {
        return group[place] == place ? place : find(group, group[place]);
    }

    /** The lightest tree again by taking roads from the lightest on, in the part where from lies. */
    private static int lightest(int places, int[][] roads, int from) {
        int[] group = new int[places];
        for (int place = 0; place < places; place++) {
            group[place] = place;
        }
        int[] weightOf = new int[places];
        for (int weight = 0; weight < 9999; weight++) {
            for (int[] road : roads) {
                int a = find(group, road[0]);
                int b = find(group, road[1]);
                if (road[2] == weight && a != b) {
                    group[a] = b;
                    weightOf[b] += weightOf[a] + weight;
                }
            }
        }
        return weightOf[find(group, from)];
    }

    private static int[][] shortest(int places, int[][] roads) {
        int[][] ways = new int[places][places];
        for (int a = 0; a < places; a++) {
            for (int b = 0; b < places; b++) {
                ways[a][b] = a == b ? 0 : 1000000;
            }
        }
        for (int[] road : roads) {
            ways[road[0]][road[1]] = Math.min(ways[road[0]][road[1]], road[2]);
            ways[road[1]][road[0]] = ways[road[0]][road[1]];
        }
        for (int over = 0; over < places; over++) {
            for (int a = 0; a < places; a++) {
                for (int b = 0; b < places; b++) {
                    ways[a][b] = Math.min(ways[a][b], ways[a][over] + ways[over][b]);
                }
            }
        }
        return ways;
    }

    private static void byChance(int seed) {
        Random random = new Random(seed);
        int places = 2 + random.nextInt(7);
        int[][] roads = new int[random.nextInt(15)][];
        LooseHeap x = new LooseHeap();
        x.net(places);
        int most = new int[] {4, 50, 5000, 10000}[seed % 4];
        for (int road = 0; road < roads.length; road++) {
            int a = random.nextInt(places);
            int b = (a + 1 + random.nextInt(places - 1)) % places;
            roads[road] = new int[] {a, b, random.nextInt(most)};
            x.road(a, b, roads[road][2]);
        }
        int[][] ways = shortest(places, roads);
        for (int from = 0; from < places; from++) {
            due.is(18, "tree(" + from + ", 0) of net " + seed, x.tree(from, 0), lightest(places, roads, from));
            int reached = 0;
            for (int to = 0; to < places; to++) {
                due.is(19, "way(" + from + ", " + to + ") of net " + seed, x.way(from, to), ways[from][to] < 9999 ? ways[from][to] : -1);
                reached += ways[from][to] < 9999 ? 1 : 0;
            }
            due.is(20, "ways(" + from + ", 3) of net " + seed, x.ways(from, 3), reached);
            int weight = 0;
            for (int road = 0; road < roads.length; road++) {
                weight += (x.tree(from, 1) >> road & 1) * roads[road][2];
            }
            due.is(18, "tree(" + from + ", 0) and its roads of net " + seed, x.tree(from, 0), weight);
        }
    }

    public static void main(String[] args) {
        net();
        road();
        refuses();
        small();
        settling();
        bounds();
        for (int seed = 0; seed < 400; seed++) {
            byChance(seed);
        }
        due.end();
    }
}
