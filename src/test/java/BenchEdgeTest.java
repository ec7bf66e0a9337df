/** Benches and images, sentence by sentence: promises 14, 15, 21 and 22. */
public final class BenchEdgeTest {
    private static final Sentences sentences = new Sentences("BenchEdgeTest");
    private static final int MIN = Integer.MIN_VALUE;
    private static final int MAX = Integer.MAX_VALUE;
    /** 0 and 2 are plain, 1 and 3 urgent, all four taken; 4 stands. */
    private static final String[] FOUR_TAKEN = {"put(0, 1)", "put(1, 2)", "put(0, 3)", "put(1, 4)", "put(1, 5)", "4 x take()"};

    private static void hold(int promise, String words, String... rows) {
        sentences.hold(promise, words, rows);
    }

    private static void holdOfFour(int promise, String words, String... rows) {
        sentences.hold(promise, words, Sentences.rows(FOUR_TAKEN, rows));
    }

    private static void benches() {
        hold(15, "8 places each, empty at first",
            "sits(0, -1) = PLACE", "sits(0, 0) = NONE", "sits(0, 7) = NONE", "sits(0, 8) = PLACE", "sits(1, -1) = PLACE", "sits(1, 0) = NONE", "sits(1, 7) = NONE", "sits(1, 8) = PLACE",
            "sits(0, " + MIN + ") = PLACE", "sits(1, " + MAX + ") = PLACE", "sits(-1, 0) = UNKNOWN", "sits(2, 0) = UNKNOWN", "sits(" + MIN + ", 0) = UNKNOWN", "sits(" + MAX + ", 0) = UNKNOWN");
        holdOfFour(14, "PLACE (no such place of a BENCH)",
            "sit(0, -1, 0) = PLACE", "sit(0, 8, 0) = PLACE", "sit(1, -1, 1) = PLACE", "sit(1, 8, 1) = PLACE", "sit(0, " + MIN + ", 0) = PLACE", "sit(0, " + MAX + ", 0) = PLACE",
            "sit(0, 0, 0) = NONE", "sit(0, 7, 2) = NONE", "sit(1, 0, 1) = NONE", "sit(1, 7, 3) = NONE", "sits(0, 0) = 0", "sits(0, 7) = 2", "sits(1, 0) = 1", "sits(1, 7) = 3", "sits(0, 1) = NONE", "sits(0, 6) = NONE", "sits(1, 1) = NONE", "sits(1, 6) = NONE");
        holdOfFour(14, "UNKNOWN (a JOB, BENCH .. that there is not)",
            "sit(-1, 0, 0) = UNKNOWN", "sit(2, 0, 0) = UNKNOWN", "sit(" + MIN + ", 0, 0) = UNKNOWN", "sit(" + MAX + ", 0, 0) = UNKNOWN",
            "sit(0, 0, -1) = UNKNOWN", "sit(0, 0, 5) = UNKNOWN", "sit(0, 0, 40) = UNKNOWN", "sit(1, 0, " + MIN + ") = UNKNOWN", "sit(1, 0, " + MAX + ") = UNKNOWN", "sit(0, 0, 0) = NONE");
        holdOfFour(14, "BENCH 0 (any JOB), 1 (urgent ones); STORE (a JOB that this BENCH does not take)",
            "sit(0, 0, 0) = NONE", "sit(0, 1, 1) = NONE", "sit(1, 0, 0) = STORE", "sit(1, 0, 2) = STORE", "sits(0, 0) = 0", "sits(1, 0) = NONE", "sit(1, 0, 1) = NONE", "sits(0, 1) = NONE", "sit(1, 0, 2) = STORE", "sits(1, 0) = 1");
        holdOfFour(14, "NOT: it STANDS", "sit(0, 0, 4) = NOT", "sit(1, 0, 4) = NOT", "sit(0, 0, 3) = NONE", "sit(0, 0, 4) = NOT", "drop(4) = 0", "sit(0, 0, 4) = 3", "sits(0, 0) = 4");
        holdOfFour(14, "each at one place at most (from where it sat it goes)",
            "sit(0, 0, 1) = NONE", "sit(0, 7, 1) = NONE", "sits(0, 0) = NONE", "sits(0, 7) = 1", "sit(1, 7, 1) = NONE", "sits(0, 7) = NONE", "sits(1, 7) = 1", "sit(0, 7, 1) = NONE", "sits(1, 7) = NONE", "sits(0, 7) = 1");
        holdOfFour(14, "who sat there sits nowhere: who sat there (NONE)",
            "sit(0, 3, 0) = NONE", "sit(0, 3, 2) = 0", "sits(0, 3) = 2", "sit(0, 4, 0) = NONE", "sit(0, 3, 0) = 2", "sits(0, 4) = NONE", "sits(0, 3) = 0", "sit(0, 3, 0) = 0", "sits(0, 3) = 0");
        hold(14, "8 places each: all of them taken", "40 x put(1, 1)", "40 x take()", "sit(0, 0, 0)", "sit(0, 1, 1)", "sit(0, 2, 2)", "sit(0, 3, 3)", "sit(0, 4, 4)", "sit(0, 5, 5)", "sit(0, 6, 6)", "sit(0, 7, 7) = NONE", "sit(0, 8, 8) = PLACE",
            "sit(1, 0, 32)", "sit(1, 1, 33)", "sit(1, 2, 34)", "sit(1, 3, 35)", "sit(1, 4, 36)", "sit(1, 5, 37)", "sit(1, 6, 38)", "sit(1, 7, 39) = NONE", "sit(1, 8, 9) = PLACE",
            "sits(0, 0) = 0", "sits(0, 7) = 7", "sits(1, 0) = 32", "sits(1, 7) = 39", "sit(1, 7, 0) = 39", "sits(0, 0) = NONE", "sits(1, 7) = 0");
    }

    private static void images() {
        hold(21, "IMAGES 0, 1", "keep(-1) = UNKNOWN", "keep(2) = UNKNOWN", "keep(" + MIN + ") = UNKNOWN", "keep(" + MAX + ") = UNKNOWN", "goBack(0) = NOT", "goBack(1) = NOT", "put(0, 1)", "keep(2) = UNKNOWN", "keep(0) = 1", "keep(1) = 1");
        hold(22, "IMAGES 0, 1", "keep(0) = 0", "keep(1) = 0", "put(0, 1)", "goBack(-1) = UNKNOWN", "goBack(2) = UNKNOWN", "goBack(" + MIN + ") = UNKNOWN", "goBack(" + MAX + ") = UNKNOWN", "told(0) = 1", "goBack(0) = 0", "told(0) = 0");
        hold(22, "NOT: it was not kept.", "put(0, 1)", "goBack(0) = NOT", "goBack(1) = NOT", "keep(0) = 1", "goBack(1) = NOT", "goBack(0) = 1", "clear()", "goBack(1) = NOT", "goBack(0) = 1", "keep(1) = 1", "goBack(1) = 1");
        hold(22, "NOT: it was not kept. (One that kept no JOBS was kept.)", "goBack(1) = NOT", "keep(1) = 0", "goBack(1) = 0", "put(0, 1)", "put(0, 1)", "join()", "goBack(1) = 0", "told(0) = 0", "told(6) = 0", "goBack(0) = NOT", "put(0, 1) = 0");
        hold(21, "how many JOBS", "keep(0) = 0", "39 x put(0, 1)", "keep(0) = 39", "put(0, 1)", "keep(1) = 40", "take()", "keep(1) = 40", "clear()", "keep(1) = 0", "goBack(0) = 39", "put(0, 2) = 39", "put(0, 2) = FULL", "goBack(1) = 0", "take() = NOT");
        hold(22, "They are as it kept them", "40 x put(0, 7)", "keep(0) = 40", "put(0, 1) = FULL", "clear() = 40", "put(1, 9) = 0", "goBack(0) = 40", "put(0, 1) = FULL", "job(0, 0) = 0", "job(39, 1) = 7", "told(3) = 40");
        sentences.hold(21, "IMAGES 0, 1 keep THE HEAP and BENCHES.", Sentences.rows(Sentences.joined(4),
            "lower(1, 50) = 1", "take() = 1", "sit(1, 7, 1) = NONE", "lower(3, 60) = 1", "keep(1) = 4", "lower(2, 40) = 1", "take() = 2", "sit(0, 0, 1) = NONE", "sit(1, 7, 1) = NONE", "sit(0, 0, 2) = NONE", "put(0, 3)", "goBack(1) = 4",
            "told(0) = 4", "told(1) = 3", "told(2) = 3", "told(3) = 1", "told(4) = 1", "told(5) = 1", "told(6) = 3", "told(7) = 1", "told(8) = 3", "loose(0) = 3", "job(2, 1) = 102", "job(2, 2) = 1", "job(2, 3) = 0", "child(2, 0) = 3", "job(3, 5) = 1",
            "sits(1, 7) = 1", "sits(0, 0) = NONE", "job(4, 0) = UNKNOWN"));
        sentences.hold(22, "They are as it kept them", Sentences.rows(Sentences.joined(8),
            "keep(0) = 8", "clear() = 8", "put(0, 9)", "put(0, 8)", "put(0, 7)", "put(0, 6)", "put(0, 5)", "join() = 3", "goBack(0) = 8",
            "child(0, 0) = 1", "child(0, 1) = 2", "child(0, 2) = 4", "child(0, 3) = NONE", "child(4, 0) = 5", "child(4, 1) = 6", "child(4, 2) = NONE", "child(6, 0) = 7", "told(6) = 7", "told(8) = 4"));
        hold(21, "IMAGES .. keep THE HEAP and BENCHES (not THE NET)", "net(3)", "road(0, 1, 5)", "keep(0) = 0", "net(4) = 1", "goBack(0) = 0", "told(9) = 4", "told(10) = 0");
        hold(21, "IMAGE i keeps: each for itself, and the last that was kept", "put(0, 1)", "keep(0) = 1", "put(0, 2)", "keep(1) = 2", "put(0, 3)", "keep(0) = 3", "goBack(1) = 2", "told(0) = 2", "put(0, 9)", "take() = 0", "goBack(1) = 2", "told(1) = 2", "goBack(0) = 3", "job(2, 1) = 3");
    }

    public static void main(String[] args) {
        benches();
        images();
        sentences.end();
    }
}
