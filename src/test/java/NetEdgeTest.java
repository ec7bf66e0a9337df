/** Section 2 of the document, sentence by sentence: the net, its trees and its ways (promises 16 to 20). */
public final class NetEdgeTest {
    private static final Sentences sentences = new Sentences("NetEdgeTest");
    private static final int MIN = Integer.MIN_VALUE;
    private static final int MAX = Integer.MAX_VALUE;

    private static void hold(int promise, String words, String... rows) {
        sentences.hold(promise, words, rows);
    }

    private static void placesAndRoads() {
        hold(16, "2 .. 8 PLACES (none at first)",
            "told(9) = 0", "way(0, 0) = UNKNOWN", "net(1) = OUTSIDE", "net(0) = OUTSIDE", "net(-1) = OUTSIDE", "net(9) = OUTSIDE", "net(" + MIN + ") = OUTSIDE", "net(" + MAX + ") = OUTSIDE", "told(9) = 0",
            "net(2) = 0", "told(9) = 2", "way(1, 1) = 0", "way(2, 2) = UNKNOWN", "net(1) = OUTSIDE", "net(8) = 0", "told(9) = 8", "way(7, 7) = 0", "way(8, 8) = UNKNOWN", "net(9) = OUTSIDE", "told(9) = 8", "net(3) = 0", "way(3, 3) = UNKNOWN");
        hold(16, "no ROADS: how many ROADS there were", "net(2) = 0", "net(2) = 0", "road(0, 1, 1)", "net(9) = OUTSIDE", "way(0, 1) = 1", "net(2) = 1", "told(10) = 0", "way(0, 1) = NONE", "tree(0, 1) = 0", "14 x road(0, 1, 1)", "net(2) = 14", "net(2) = 0");
        hold(17, "ROADS (14 at most)", "net(2)", "12 x road(0, 1, 1)", "road(0, 1, 1) = 12", "road(0, 1, 1) = 13", "road(0, 1, 1) = FULL", "told(10) = 14", "net(2) = 14", "road(0, 1, 1) = 0");
        hold(17, "each with a weight, 0 .. 9999",
            "net(3)", "road(0, 1, -1) = OUTSIDE", "road(0, 1, 10000) = OUTSIDE", "road(0, 1, " + MIN + ") = OUTSIDE", "road(0, 1, " + MAX + ") = OUTSIDE", "road(0, 1, 0) = 0", "road(0, 2, 9999) = 1", "road(1, 2, 1) = 2", "road(1, 2, 9998) = 3", "told(10) = 4");
        hold(17, "UNKNOWN (a PLACE)",
            "road(0, 1, 1) = UNKNOWN", "net(2)", "road(-1, 0, 1) = UNKNOWN", "road(0, -1, 1) = UNKNOWN", "road(2, 0, 1) = UNKNOWN", "road(0, 2, 1) = UNKNOWN", "road(" + MIN + ", 0, 1) = UNKNOWN", "road(0, " + MAX + ", 1) = UNKNOWN",
            "road(0, 1, 1) = 0", "net(8) = 1", "road(0, 8, 1) = UNKNOWN", "road(8, 0, 1) = UNKNOWN", "road(7, 0, 1) = 0", "road(0, 7, 1) = 1");
    }

    private static void refused() {
        hold(18, "tree: UNKNOWN, OUTSIDE.",
            "net(8)", "tree(-1, 0) = UNKNOWN", "tree(8, 0) = UNKNOWN", "tree(" + MIN + ", 0) = UNKNOWN", "tree(" + MAX + ", 0) = UNKNOWN", "tree(0, -1) = OUTSIDE", "tree(0, 5) = OUTSIDE", "tree(0, " + MIN + ") = OUTSIDE", "tree(0, " + MAX + ") = OUTSIDE", "tree(0, 0) = 0", "tree(7, 4) = 0");
        hold(19, "way: UNKNOWN.",
            "net(8)", "way(-1, 0) = UNKNOWN", "way(0, -1) = UNKNOWN", "way(8, 0) = UNKNOWN", "way(0, 8) = UNKNOWN", "way(" + MIN + ", 0) = UNKNOWN", "way(0, " + MAX + ") = UNKNOWN", "way(0, 7) = NONE", "way(7, 0) = NONE");
        hold(20, "ways: UNKNOWN, OUTSIDE.",
            "net(8)", "ways(-1, 0) = UNKNOWN", "ways(8, 0) = UNKNOWN", "ways(" + MIN + ", 0) = UNKNOWN", "ways(" + MAX + ", 0) = UNKNOWN", "ways(0, -1) = OUTSIDE", "ways(0, 4) = OUTSIDE", "ways(0, " + MIN + ") = OUTSIDE", "ways(0, " + MAX + ") = OUTSIDE", "ways(0, 1) = 0", "ways(7, 3) = 1");
    }

    /** The links are those of taking the places one by one: of 8 that are alone, 4, 2, 1, 2, 0, 1 of them. */
    private static void heapOfItsOwn() {
        String words = "TREE from a PLACE, by a HEAP of its own, .. all are PUT, rising, KEY 9999 in sixteenths, but 0 for that PLACE";
        hold(18, words, "net(2)", "tree(0, 2) = 0", "tree(1, 2) = 0", "tree(0, 3) = 0", "net(3)", "tree(0, 2) = 1", "tree(2, 2) = 1", "net(8)", "tree(0, 2) = 10", "tree(0, 3) = 0", "ways(0, 0) = 10", "ways(0, 1) = 0");
        hold(18, "by a HEAP of its own", "40 x put(0, 1)", "net(8)", "tree(0, 2) = 10", "ways(0, 0) = 10", "told(0) = 40", "told(1) = 40", "told(3) = 40", "told(6) = 0", "told(7) = 0");
        // 1 is above 2, which gets loose and is cut as it is taken.
        hold(18, "2 LINKS, 3 CUTS", "net(3)", "road(0, 2, 9999)", "tree(0, 3) = 0", "ways(0, 1) = 0", "road(0, 2, 9998)", "tree(0, 2) = 1", "tree(0, 3) = 1", "ways(0, 0) = 1", "ways(0, 1) = 1", "road(0, 1, 9998)", "tree(0, 2) = 1", "tree(0, 3) = 0", "ways(0, 1) = 0");
    }

    private static void trees() {
        hold(18, "if its weight is less than the KEY of that, that is LOWERED to it",
            "net(2)", "road(0, 1, 9999)", "tree(0, 4) = 0", "road(0, 1, 9998)", "tree(0, 4) = 1", "tree(0, 0) = 9998", "road(0, 1, 9998)", "tree(0, 4) = 1", "tree(0, 1) = 2", "road(0, 1, 9997)", "tree(0, 4) = 2", "tree(0, 1) = 8", "tree(1, 1) = 8");
        hold(18, "for all ROADS from it, rising", "net(2)", "road(0, 1, 7)", "road(1, 0, 6)", "road(0, 1, 5)", "road(1, 0, 5)", "road(0, 1, 6)", "tree(0, 4) = 3", "tree(0, 1) = 4", "tree(0, 0) = 5", "ways(0, 2) = 3", "ways(1, 2) = 3");
        hold(18, "(A weight of 9999 hangs nothing.)",
            "net(3)", "road(0, 1, 9999)", "road(1, 2, 9998)", "tree(0, 0) = 0", "tree(0, 1) = 0", "tree(0, 4) = 0", "tree(1, 0) = 9998", "tree(1, 1) = 2", "tree(1, 4) = 1", "tree(2, 0) = 9998", "way(0, 1) = NONE", "way(1, 2) = 9998");
        hold(18, "if its KEY is below 9999, or it is the first",
            "net(4)", "road(1, 2, 3)", "tree(0, 0) = 0", "tree(0, 1) = 0", "tree(0, 4) = 0", "tree(1, 0) = 3", "tree(1, 4) = 1", "ways(0, 2) = 0", "ways(0, 3) = 1", "ways(1, 3) = 2",
            "road(0, 1, 9998)", "tree(0, 0) = 10001", "tree(0, 1) = 3", "tree(0, 4) = 2", "ways(0, 3) = 2");
        hold(18, "to a PLACE that STANDS", "net(3)", "road(0, 1, 5)", "road(1, 2, 4)", "tree(0, 4) = 2", "tree(2, 4) = 2", "tree(1, 4) = 2", "road(2, 0, 1)", "tree(0, 4) = 3", "tree(0, 1) = 6", "tree(0, 0) = 5");
        hold(18, "a weight of 0", "net(3)", "road(0, 1, 0)", "road(1, 2, 0)", "road(0, 2, 0)", "tree(0, 0) = 0", "tree(0, 1) = 5", "tree(0, 4) = 2", "tree(1, 1) = 3", "way(0, 2) = 0", "ways(0, 2) = 2", "ways(0, 3) = 3");
        hold(18, "WEIGHT: of all those ROADS together",
            "net(8)", "road(0, 1, 9998)", "road(1, 2, 9998)", "road(2, 3, 9998)", "road(3, 4, 9998)", "road(4, 5, 9998)", "road(5, 6, 9998)", "tree(0, 0) = 59988", "road(6, 7, 9998)", "tree(0, 0) = 69986", "tree(4, 0) = 69986", "tree(0, 1) = 127", "ways(0, 3) = 2", "ways(4, 3) = 3");
    }

    private static void waysToGo() {
        hold(19, "if that is less than it and below 9999",
            "net(3)", "road(0, 1, 5000)", "road(1, 2, 5000)", "way(0, 2) = NONE", "ways(0, 2) = 1", "road(1, 2, 4999)", "way(0, 2) = NONE", "ways(0, 2) = 1", "ways(0, 3) = 2", "road(1, 2, 4998)", "way(0, 2) = 9998", "way(2, 0) = 9998", "ways(0, 2) = 2", "ways(0, 3) = 3");
        hold(20, "if that is less than it", "net(3)", "road(0, 2, 5)", "road(0, 1, 2)", "road(1, 2, 4)", "way(0, 2) = 5", "ways(0, 2) = 2", "road(1, 2, 3)", "way(0, 2) = 5", "ways(0, 2) = 2", "road(1, 2, 2)", "way(0, 2) = 4", "ways(0, 2) = 3");
        hold(19, "The KEY with which a PLACE was TAKEN is its distance; 9999: it cannot be come to.",
            "net(3)", "way(0, 1) = NONE", "road(0, 1, 9999)", "way(0, 1) = NONE", "way(1, 0) = NONE", "road(0, 1, 9998)", "way(0, 1) = 9998", "road(1, 2, 1)", "way(0, 2) = NONE", "road(1, 2, 0)", "way(0, 2) = 9998", "ways(0, 3) = 3");
        hold(19, "9998 and 9998 are far beyond", "net(3)", "road(0, 1, 9998)", "road(1, 2, 9998)", "way(0, 2) = NONE", "ways(0, 3) = 2", "tree(0, 0) = 19996", "road(0, 2, 9997)", "way(0, 2) = 9997");
        hold(19, "the distance of a PLACE from another one (perhaps itself)", "net(2)", "way(0, 0) = 0", "way(1, 1) = 0", "way(0, 1) = NONE", "road(0, 1, 7)", "way(0, 0) = 0", "way(1, 1) = 0", "way(0, 1) = 7", "road(0, 1, 0)", "way(0, 1) = 0", "way(0, 0) = 0");
        hold(20, "3 how many PLACES can be come to (itself, too)", "net(8)", "ways(0, 3) = 1", "ways(7, 3) = 1", "road(0, 7, 9999)", "ways(0, 3) = 1", "road(0, 7, 1)", "ways(0, 3) = 2", "ways(7, 3) = 2", "ways(1, 3) = 1",
            "road(7, 1, 1)", "road(1, 2, 1)", "road(2, 3, 1)", "road(3, 4, 1)", "road(4, 5, 1)", "ways(0, 3) = 7", "road(5, 6, 1)", "ways(0, 3) = 8", "ways(6, 3) = 8", "way(0, 6) = 7");
    }

    public static void main(String[] args) {
        placesAndRoads();
        refused();
        heapOfItsOwn();
        trees();
        waysToGo();
        sentences.end();
    }
}
