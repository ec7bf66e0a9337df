/** The sentences ahead of the document's sections: numbers, sets, refusals and their order; how long an object is used. */
public final class TermsEdgeTest {
    private static final Sentences sentences = new Sentences("TermsEdgeTest");

    private static void hold(int promise, String words, String... rows) {
        sentences.hold(promise, words, rows);
    }

    private static void numbersFromZeroOn() {
        String words = "What has a number has it from 0 on, as it comes.";
        hold(2, words,
            "job(0, 1) = UNKNOWN", "put(0, 5) = 0", "job(0, 1) = 5", "job(1, 1) = UNKNOWN", "put(1, 4) = 1", "job(1, 1) = 4", "job(-1, 1) = UNKNOWN",
            "take() = 1", "put(0, 3) = 2", "job(1, 1) = 4", "job(2, 1) = 3", "job(3, 1) = UNKNOWN");
        hold(11, words, Sentences.rows(Sentences.joined(4), "child(0, 0) = 1", "child(0, 1) = 2", "child(0, 2) = NONE", "child(0, -1) = OUTSIDE"));
        hold(16, words, "net(3) = 0", "way(-1, -1) = UNKNOWN", "way(0, 0) = 0", "way(1, 1) = 0", "way(2, 2) = 0", "way(3, 3) = UNKNOWN");
        hold(17, words, "net(2) = 0", "road(0, 1, 1) = 0", "road(1, 0, 1) = 1", "road(0, 1, 1) = 2", "net(2) = 3", "road(0, 1, 1) = 0");
        hold(21, words, "keep(-1) = UNKNOWN", "keep(0) = 0", "keep(1) = 0", "keep(2) = UNKNOWN");
        hold(14, words, "put(1, 5)", "take()", "sit(-1, 0, 0) = UNKNOWN", "sit(0, -1, 0) = PLACE", "sit(0, 0, 0) = NONE", "sit(1, 0, 0) = NONE", "sit(2, 0, 0) = UNKNOWN");
    }

    private static void sets() {
        String words = "A SET is a whole number, bit k for k.";
        hold(18, words,
            "net(2)", "tree(0, 1) = 0", "road(0, 1, 8) = 0", "tree(0, 1) = 1", "road(0, 1, 7) = 1", "tree(0, 1) = 2",
            "11 x road(0, 1, 9)", "road(1, 0, 6) = 13", "tree(0, 1) = 8192", "tree(1, 1) = 8192");
        hold(18, words,
            "net(8)", "7 x road(0, 1, 9999)", "road(0, 1, 1) = 7", "road(1, 2, 1)", "road(2, 3, 1)", "road(3, 4, 1)", "road(4, 5, 1)", "road(5, 6, 1)", "tree(0, 1) = 8064", "road(6, 7, 1) = 13", "tree(0, 1) = 16256");
    }

    private static void noneAndRefusals() {
        hold(1, "NONE is -1.", "told(2) = -1", "told(5) = -1", "loose(0) = -1", "sits(0, 0) = -1", "put(0, 0) = 0", "child(0, 0) = -1", "job(0, 3) = -1", "net(2) = 0", "way(0, 1) = -1");
        hold(1, "They are far below all that is counted: -1000000001 and on.",
            "job(0, 0) = -1000000001", "told(11) = -1000000002", "take() = -1000000003", "40 x put(0, -9999)", "put(0, 0) = -1000000004", "take() = 0",
            "sit(0, 8, 0) = -1000000011", "sit(1, 0, 0) = -1000000012");
        hold(5, "UNKNOWN (a JOB .. that there is not)", "drop(0) = UNKNOWN", "put(0, 0)", "drop(-1) = UNKNOWN", "drop(1) = UNKNOWN", "drop(0) = 0");
        hold(15, "UNKNOWN (a .. BENCH .. that there is not)", "sits(-1, 0) = UNKNOWN", "sits(0, 0) = NONE", "sits(1, 0) = NONE", "sits(2, 0) = UNKNOWN");
        hold(18, "UNKNOWN (a .. PLACE of THE NET .. that there is not)", "tree(0, 0) = UNKNOWN", "net(2)", "tree(-1, 0) = UNKNOWN", "tree(0, 0) = 0", "tree(1, 0) = 0", "tree(2, 0) = UNKNOWN");
        hold(22, "UNKNOWN (an .. IMAGE that there is not)", "keep(0)", "keep(1)", "goBack(-1) = UNKNOWN", "goBack(0) = 0", "goBack(1) = 0", "goBack(2) = UNKNOWN");
        hold(17, "UNKNOWN (.. one twice, where two are asked)",
            "net(3)", "road(0, 0, 1) = UNKNOWN", "road(1, 1, 1) = UNKNOWN", "road(2, 2, 1) = UNKNOWN", "road(0, 1, 1) = 0", "road(1, 0, 1) = 1", "road(1, 1, 1) = UNKNOWN", "way(1, 1) = 0");
    }

    private static void orderAmongJobs() {
        String words = "REFUSALS, of several the first in this order: UNKNOWN, OUTSIDE, NOT, FULL";
        hold(2, words,
            "40 x put(0, 1)", "put(0, 1) = FULL", "put(1, 9999) = FULL", "put(1, -9999) = FULL",
            "put(2, 1) = OUTSIDE", "put(-1, 1) = OUTSIDE", "put(0, 10000) = OUTSIDE", "put(1, -10000) = OUTSIDE", "put(2, 10000) = OUTSIDE");
        hold(3, words,
            "put(0, 5)", "put(0, 7)", "take() = 0",
            "lower(2, 0) = UNKNOWN", "lower(2, 10000) = UNKNOWN", "lower(2, -10000) = UNKNOWN", "lower(-1, 10000) = UNKNOWN", "lower(-1, 0) = UNKNOWN",
            "lower(0, 10000) = OUTSIDE", "lower(0, -10000) = OUTSIDE", "lower(1, 10000) = OUTSIDE", "lower(1, -10000) = OUTSIDE",
            "lower(0, 4) = NOT", "lower(0, 5) = NOT", "lower(0, 6) = NOT", "lower(0, 9999) = NOT", "lower(1, 7) = NOT", "lower(1, 9999) = NOT", "lower(1, 6) = 0");
        hold(8, words, "drift(0, 0) = OUTSIDE", "drift(41, 1000000) = OUTSIDE", "40 x put(0, 1)", "drift(41, 1) = OUTSIDE", "drift(1, 0) = OUTSIDE");
        hold(10, words, "job(0, 9) = UNKNOWN", "job(0, -1) = UNKNOWN", "put(0, 1)", "job(0, 9) = OUTSIDE", "job(0, -1) = OUTSIDE", "job(1, 9) = UNKNOWN", "job(-1, -1) = UNKNOWN");
        hold(11, words, "child(0, -1) = UNKNOWN", "put(0, 1)", "child(0, -1) = OUTSIDE", "child(1, -1) = UNKNOWN", "child(-1, -1) = UNKNOWN", "take()", "child(0, -1) = OUTSIDE", "child(0, 0) = NONE");
        hold(22, words, "goBack(2) = UNKNOWN", "goBack(-1) = UNKNOWN", "goBack(0) = NOT", "goBack(1) = NOT", "keep(1)", "goBack(0) = NOT", "goBack(1) = 0");
    }

    private static void orderAtTheBenches() {
        String words = "REFUSALS .. UNKNOWN, OUTSIDE, NOT, FULL; then what the machine finds: PLACE, STORE";
        // 0 and 1 are taken, 2 and 3 stand; 0 and 2 are plain.
        hold(14, words,
            "put(0, 1)", "put(1, 2)", "put(0, 3)", "put(1, 4)", "take() = 0", "take() = 1", "sit(0, 0, 1) = NONE",
            "sit(2, 0, 0) = UNKNOWN", "sit(-1, 0, 0) = UNKNOWN", "sit(2, 0, 2) = UNKNOWN", "sit(2, 8, 0) = UNKNOWN", "sit(2, 8, 2) = UNKNOWN", "sit(2, 0, 4) = UNKNOWN",
            "sit(0, 0, 4) = UNKNOWN", "sit(0, 0, -1) = UNKNOWN", "sit(0, 8, 4) = UNKNOWN", "sit(1, -1, 4) = UNKNOWN", "sit(1, 0, 4) = UNKNOWN",
            "sit(0, 0, 2) = NOT", "sit(0, 8, 2) = NOT", "sit(0, -1, 3) = NOT", "sit(1, 0, 2) = NOT", "sit(1, 8, 2) = NOT", "sit(1, 0, 3) = NOT", "sit(1, 8, 3) = NOT",
            "sit(0, 8, 0) = PLACE", "sit(0, -1, 0) = PLACE", "sit(1, 8, 0) = PLACE", "sit(1, -1, 0) = PLACE", "sit(1, 8, 1) = PLACE",
            "sit(1, 0, 0) = STORE", "sit(1, 7, 0) = STORE", "sit(0, 0, 0) = 1");
        hold(15, words, "sits(2, 8) = UNKNOWN", "sits(-1, -1) = UNKNOWN", "sits(2, -1) = UNKNOWN", "sits(-1, 8) = UNKNOWN", "sits(0, 8) = PLACE", "sits(0, -1) = PLACE", "sits(1, 8) = PLACE", "sits(1, -1) = PLACE");
    }

    private static void orderInTheNet() {
        String words = "REFUSALS, of several the first in this order: UNKNOWN, OUTSIDE, NOT, FULL";
        hold(17, words,
            "road(0, 1, 10000) = UNKNOWN", "net(3)", "road(0, 3, 10000) = UNKNOWN", "road(3, 0, -1) = UNKNOWN", "road(-1, 0, 10000) = UNKNOWN", "road(0, -1, -1) = UNKNOWN", "road(1, 1, 10000) = UNKNOWN",
            "road(3, 3, 0) = UNKNOWN", "14 x road(0, 1, 5)", "road(0, 1, 5) = FULL", "road(2, 1, 0) = FULL", "road(2, 1, 9999) = FULL",
            "road(0, 1, 10000) = OUTSIDE", "road(0, 1, -1) = OUTSIDE", "road(0, 3, 5) = UNKNOWN", "road(-1, 0, 5) = UNKNOWN", "road(1, 1, 5) = UNKNOWN", "road(1, 1, -1) = UNKNOWN", "road(0, 3, 10000) = UNKNOWN");
        hold(18, words, "tree(0, 5) = UNKNOWN", "net(3)", "tree(3, 5) = UNKNOWN", "tree(-1, -1) = UNKNOWN", "tree(3, -1) = UNKNOWN", "tree(0, 5) = OUTSIDE", "tree(2, -1) = OUTSIDE");
        hold(20, words, "ways(0, 4) = UNKNOWN", "net(3)", "ways(3, 4) = UNKNOWN", "ways(-1, -1) = UNKNOWN", "ways(3, -1) = UNKNOWN", "ways(0, 4) = OUTSIDE", "ways(2, -1) = OUTSIDE");
        hold(19, words, "way(0, 0) = UNKNOWN", "net(2)", "way(2, 0) = UNKNOWN", "way(0, 2) = UNKNOWN", "way(2, 2) = UNKNOWN", "way(-1, 2) = UNKNOWN");
    }

    private static void lastCalls() {
        String words = "An object is used for at most 512 calls after it has been made";
        hold(4, words, "put(0, 5)", "put(1, 4)", "509 x told(0) = 2", "take() = 1");
        hold(7, words, "471 x clear() = 0", "40 x put(1, 5)", "told(0) = 40");
        hold(19, words, "net(8)", "road(0, 7, 3)", "road(7, 6, 4)", "507 x tree(6, 0) = 7", "ways(0, 3) = 3", "way(0, 6) = 7");
    }

    public static void main(String[] args) {
        numbersFromZeroOn();
        sets();
        noneAndRefusals();
        orderAmongJobs();
        orderAtTheBenches();
        orderInTheNet();
        lastCalls();
        sentences.end();
    }
}
