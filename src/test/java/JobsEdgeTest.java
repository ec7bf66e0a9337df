/** Section 1 of the document, sentence by sentence, and the promises 1 to 7 and 9 to 12 that stand on it. */
public final class JobsEdgeTest {
    private static final Sentences sentences = new Sentences("JobsEdgeTest");
    private static final int MIN = Integer.MIN_VALUE;
    private static final int MAX = Integer.MAX_VALUE;

    private static void hold(int promise, String words, String... rows) {
        sentences.hold(promise, words, rows);
    }

    /** The same with jobs ahead that are joined. */
    private static void holdOf(int jobs, int promise, String words, String... rows) {
        sentences.hold(promise, words, Sentences.rows(Sentences.joined(jobs), rows));
    }

    private static void newObject() {
        hold(1, "No JOBS, no NET.",
            "told(0) = 0", "told(1) = 0", "told(2) = NONE", "told(3) = 0", "told(4) = 0", "told(5) = NONE", "told(6) = 0", "told(7) = 0", "told(8) = 0", "told(9) = 0", "told(10) = 0",
            "bits() = 0", "loose(0) = NONE", "join() = 0", "clear() = 0", "take() = NOT", "drop(0) = UNKNOWN", "lower(0, 0) = UNKNOWN", "job(0, 0) = UNKNOWN", "child(0, 0) = UNKNOWN", "sit(0, 0, 0) = UNKNOWN",
            "road(0, 1, 0) = UNKNOWN", "tree(0, 0) = UNKNOWN", "way(0, 0) = UNKNOWN", "ways(0, 0) = UNKNOWN", "goBack(0) = NOT", "goBack(1) = NOT");
    }

    private static void bounds() {
        hold(2, "JOBS (40 at most)", "38 x put(0, 1)", "put(0, 1) = 38", "put(0, 1) = 39", "put(0, 1) = FULL", "told(0) = 40", "job(39, 1) = 1", "job(40, 1) = UNKNOWN");
        hold(2, "FULL (40): those that are TAKEN are JOBS, too", "39 x put(0, 1)", "39 x take()", "put(0, 1) = 39", "put(0, 1) = FULL", "take() = 39", "put(0, 1) = FULL", "told(1) = 0", "clear() = 40", "put(0, 1) = 0");
        hold(2, "KIND 0 plain, 1 urgent", "put(-1, 5) = OUTSIDE", "put(0, 5) = 0", "put(1, 5) = 1", "put(2, 5) = OUTSIDE", "put(" + MIN + ", 5) = OUTSIDE", "put(" + MAX + ", 5) = OUTSIDE", "job(0, 0) = 0", "job(1, 0) = 1");
        hold(2, "KEY -9999 .. 9999",
            "put(0, -10000) = OUTSIDE", "put(0, -9999) = 0", "put(0, -9998) = 1", "put(0, 9998) = 2", "put(0, 9999) = 3", "put(0, 10000) = OUTSIDE", "put(0, " + MIN + ") = OUTSIDE", "put(0, " + MAX + ") = OUTSIDE",
            "job(0, 1) = -9999", "job(1, 1) = -9998", "job(2, 1) = 9998", "job(3, 1) = 9999", "told(0) = 4");
        hold(3, "KEY -9999 .. 9999",
            "put(0, 9999)", "lower(0, 10000) = OUTSIDE", "lower(0, 9999) = NOT", "lower(0, 9998) = 0", "lower(0, -10000) = OUTSIDE", "lower(0, " + MIN + ") = OUTSIDE", "lower(0, " + MAX + ") = OUTSIDE",
            "lower(0, -9998) = 0", "lower(0, -9999) = 0", "job(0, 1) = -9999", "lower(0, -10000) = OUTSIDE", "lower(0, -9999) = NOT");
    }

    private static void soonerAndTrees() {
        hold(4, "Of two JOBS the one with the lesser KEY is SOONER, of like KEYS that of the lesser number.",
            "put(0, 0)", "put(0, 0)", "told(2) = 0", "put(0, 1)", "told(2) = 0", "put(0, -1)", "told(2) = 3", "put(0, -1)", "told(2) = 3", "put(0, -9999)", "told(2) = 5",
            "take() = 5", "take() = 3", "take() = 4", "take() = 0", "take() = 1", "take() = 2", "take() = NOT");
        hold(6, "LINK of two ROOTS: the other one comes BELOW the SOONER one",
            "put(0, 5)", "put(0, 5)", "join() = 1", "job(0, 3) = NONE", "job(1, 3) = 0", "clear() = 2", "put(0, 5)", "put(0, 4)", "join() = 1", "job(0, 3) = 1", "job(1, 3) = NONE");
        // 1 and 3 get loose and are linked, 0 loses 1; lowered, 0 comes above 1 again.
        holdOf(4, 6, "as its last CHILD; in the order in which they came there",
            "child(0, 0) = 1", "child(0, 1) = 2", "lower(1, 50) = 1", "lower(3, 60) = 0", "child(0, 0) = 2", "child(0, 1) = NONE", "child(1, 0) = 3", "lower(0, 40) = 0", "join() = 1",
            "child(0, 0) = 2", "child(0, 1) = 1", "child(0, 2) = NONE", "told(6) = 5", "told(7) = 2");
        holdOf(8, 5, "those BELOW it directly, in the order in which they came there", "child(0, 0) = 1", "child(0, 1) = 2", "child(0, 2) = 4", "drop(2) = 7", "child(0, 0) = 1", "child(0, 1) = 4", "child(0, 2) = NONE", "drop(1) = 6", "child(0, 0) = 4", "child(0, 1) = NONE");
        holdOf(4, 3, "CUT of a JOB that is BELOW another one: it is a ROOT, not LOOSE. Both are counted.",
            "told(6) = 3", "told(7) = 0", "lower(3, 50) = 1", "job(3, 5) = 1", "job(3, 3) = 2", "told(7) = 0", "lower(1, 60) = 0", "told(7) = 2", "told(6) = 4", "job(3, 3) = NONE", "job(3, 5) = 0", "job(1, 3) = 3", "job(1, 5) = 0");
        hold(10, "RANK: how many", "put(0, 1)", "job(0, 4) = 0", "put(0, 2)", "join()", "job(0, 4) = 1", "put(0, 3)", "put(0, 4)", "join()", "job(0, 4) = 2", "drop(1)", "job(0, 4) = 1", "drop(2)", "job(0, 4) = 1", "child(0, 0) = 3", "drop(3)", "job(0, 4) = 0");
    }

    private static void settledAndJoined() {
        holdOf(8, 3, "SETTLED: as long as two LOOSE JOBS have the same RANK",
            "lower(7, 90) = 1", "told(4) = 1", "told(7) = 0", "lower(6, 95) = 1", "told(4) = 2", "told(7) = 0", "loose(0) = 7", "loose(1) = 6", "lower(4, 96) = 1", "told(4) = 3", "loose(2) = 4", "told(7) = 0",
            "lower(5, 80) = 0", "told(7) = 2", "told(4) = 2", "told(6) = 8", "loose(0) = 6", "loose(1) = 4", "loose(2) = NONE");
        // 1 and 5 are cut, so 4 has rank 1, as the loose 2: these are cut, too.
        holdOf(8, 3, "SETTLED: as long as two LOOSE JOBS have the same RANK",
            "lower(4, 90) = 1", "lower(2, 95) = 1", "lower(5, 80) = 1", "told(4) = 3", "told(7) = 0", "lower(1, 85) = 0", "told(7) = 4", "told(6) = 9", "told(4) = 0", "job(1, 3) = 5", "job(2, 3) = 4", "child(4, 0) = 6", "child(4, 1) = 2");
        // Without 5 and 17 the loose 4 and 18 have rank 1, 8 and 16 rank 3; without 18 then 16 has rank 2.
        holdOf(32, 3, "of the least such RANK those two .. are CUT .. and LINKED",
            "lower(16, 90) = 1", "lower(8, 89) = 1", "lower(4, 88) = 1", "lower(18, 80) = 1", "lower(17, 79) = 1", "told(4) = 5", "told(7) = 0", "lower(5, 78) = 0",
            "told(7) = 4", "told(6) = 33", "told(4) = 2", "loose(2) = 16", "loose(3) = 8", "job(17, 3) = 5", "job(4, 3) = 18", "job(8, 3) = 0", "job(16, 3) = 0");
        hold(6, "JOINED: as long as two ROOTS have the same RANK",
            "join() = 0", "put(0, 1)", "join() = 0", "put(0, 2)", "told(3) = 2", "join() = 1", "told(3) = 1", "join() = 0", "put(0, 3)", "join() = 0", "told(3) = 2", "put(0, 4)", "join() = 2", "told(3) = 1", "36 x put(0, 9)", "join() = 35", "told(3) = 2");
        hold(6, "those two of the least numbers are LINKED", "put(0, 7)", "put(0, 6)", "put(0, 5)", "join() = 1", "job(0, 3) = 1", "job(2, 3) = NONE", "told(3) = 2");
        // Without 0 the roots 1 and 6 have rank 0, 3 and 4 rank 1; 1 and 6 linked, 1, 3 and 4 have rank 1.
        hold(4, "of the least such RANK those two of the least numbers are LINKED",
            "put(0, 100)", "put(0, 101)", "put(0, 104)", "put(0, 103)", "put(0, 104)", "put(0, 105)", "put(0, 102)", "join() = 4", "told(3) = 3", "take() = 0", "told(3) = 2", "told(6) = 6", "child(1, 0) = 6", "child(1, 1) = 3", "job(4, 3) = NONE");
        hold(2, "PUT: a new JOB, a ROOT of RANK 0 (nothing is JOINED).", "put(0, 1)", "put(0, 2)", "told(3) = 2", "told(6) = 0", "job(0, 4) = 0", "job(1, 4) = 0", "job(1, 3) = NONE", "job(1, 5) = 0", "job(1, 6) = 0", "job(1, 7) = 1");
    }

    /**
     * Three of one rank: 9 comes to stand above 25 (33, 13, 18, 28 of ranks 0 to 3 below it) and 0 (1, 2, 4, 8, 16; 2 of rank 1, 4 of rank 2).
     * With 5 and 33 cut, 4 has rank 1 as 2, and 25 rank 3 as 28; with 2 and 4 cut, 0 has rank 3, too.
     */
    private static void threeOfOneRank() {
        holdOf(32, 3, "of the least such RANK those two of the least numbers are CUT .. and LINKED",
            "lower(12, 62) = 1", "lower(20, 70) = 0", "lower(10, 60) = 1", "lower(18, 68) = 0", "lower(9, 59) = 1", "lower(17, 67) = 0", "8 x put(0, 200)", "join() = 8",
            "lower(20, 40) = 1", "lower(28, 39) = 0", "lower(14, 38) = 1", "lower(18, 37) = 0", "lower(11, 36) = 1", "lower(13, 35) = 0", "lower(33, 34) = 1", "lower(25, 33) = 0", "lower(9, -100) = 0", "join() = 5",
            "job(9, 4) = 6", "child(9, 4) = 25", "child(9, 5) = 0", "told(6) = 51", "told(7) = 14", "told(4) = 0",
            "lower(0, -101) = 1", "lower(25, -102) = 1", "lower(28, -103) = 1", "lower(4, -104) = 1", "lower(2, -105) = 1", "lower(33, -106) = 1",
            "loose(0) = 33", "loose(1) = 2", "loose(2) = 4", "loose(3) = 28", "loose(4) = 25", "loose(5) = 0", "told(4) = 6", "told(7) = 14", "lower(5, -107) = 0",
            "told(7) = 20", "told(6) = 54", "told(4) = 1", "loose(3) = 28", "job(28, 3) = 25", "job(33, 3) = 5", "job(4, 3) = 2", "job(0, 3) = 25", "job(25, 3) = NONE", "job(25, 4) = 4", "job(0, 4) = 3", "job(9, 4) = 4");
    }

    private static void lowered() {
        hold(3, "NOT: it does not STAND, KEY is not lesser.",
            "put(0, 5)", "lower(0, 6) = NOT", "lower(0, 5) = NOT", "lower(0, 4) = 0", "lower(0, 4) = NOT", "take() = 0", "lower(0, 3) = NOT", "lower(0, 4) = NOT", "lower(0, 5) = NOT", "job(0, 1) = 4");
        hold(3, "NOT: KEY is not lesser.", "put(0, -9998)", "lower(0, -9998) = NOT", "lower(0, 0) = NOT", "lower(0, 9999) = NOT", "lower(0, -9999) = 0", "lower(0, -9999) = NOT");
        holdOf(2, 3, "if it is SOONER then than the JOB that it is BELOW, it is LOOSE: 1 it is LOOSE then, 0 not.",
            "job(1, 3) = 0", "lower(1, 100) = 0", "job(1, 5) = 0", "told(2) = 0", "lower(1, 99) = 1", "job(1, 5) = 1", "job(1, 3) = 0", "told(2) = 1", "loose(0) = 1");
        hold(3, "if it is SOONER then than the JOB that it is BELOW, it is LOOSE: of like KEYS that of the lesser number",
            "put(0, 10)", "put(0, 8)", "join() = 1", "job(0, 3) = 1", "lower(0, 9) = 0", "job(0, 5) = 0", "told(2) = 1", "lower(0, 8) = 1", "job(0, 5) = 1", "told(2) = 0", "told(4) = 1", "loose(0) = 0");
        hold(3, "it is BELOW another one, or is a ROOT: a ROOT is not LOOSE", "put(0, 10)", "put(0, 8)", "lower(0, 9) = 0", "lower(0, 7) = 0", "told(4) = 0", "join() = 1", "lower(0, -9999) = 0", "told(4) = 0");
        holdOf(4, 3, "it is LOOSE (or stays so)", "lower(3, 50) = 1", "lower(3, 40) = 1", "told(4) = 1", "told(7) = 0", "job(3, 3) = 2", "lower(2, 30) = 1", "lower(3, 35) = 1", "job(3, 5) = 1", "told(4) = 2", "told(7) = 0");
        hold(3, "UNKNOWN", "lower(0, 0) = UNKNOWN", "put(0, 5)", "lower(-1, 0) = UNKNOWN", "lower(1, 0) = UNKNOWN", "lower(40, 0) = UNKNOWN", "lower(" + MIN + ", 0) = UNKNOWN", "lower(" + MAX + ", 0) = UNKNOWN", "lower(0, 0) = 0");
    }

    private static void taken() {
        hold(4, "NOT: none STANDS.", "take() = NOT", "put(0, 1)", "take() = 0", "take() = NOT", "put(0, 1)", "clear()", "take() = NOT", "40 x put(0, 1)", "39 x take()", "take() = 39", "take() = NOT");
        hold(5, "UNKNOWN, NOT: it does not STAND.",
            "drop(0) = UNKNOWN", "put(0, 1)", "put(0, 2)", "drop(-1) = UNKNOWN", "drop(2) = UNKNOWN", "drop(40) = UNKNOWN", "drop(" + MIN + ") = UNKNOWN", "drop(" + MAX + ") = UNKNOWN",
            "drop(1) = 1", "drop(1) = NOT", "take() = 0", "drop(0) = NOT", "drop(1) = NOT");
        hold(5, "how many STAND", "39 x put(0, 1)", "drop(5) = 38", "put(0, 1)", "drop(39) = 38", "36 x take()", "told(1) = 2", "drop(37) = 1", "drop(38) = 0", "drop(38) = NOT");
        holdOf(8, 5, "TAKEN: one that is BELOW another one is CUT", "drop(0) = 7", "told(7) = 0", "drop(7) = 6", "told(7) = 1", "drop(6) = 5", "told(7) = 2", "job(6, 3) = NONE");
        holdOf(8, 5, "its CHILDREN are ROOTS, not LOOSE (no CUTS are counted for that)",
            "lower(4, 90) = 1", "lower(2, 95) = 1", "told(4) = 2", "drop(0) = 7", "told(4) = 0", "told(7) = 0", "told(3) = 3", "job(1, 3) = NONE", "job(2, 3) = NONE", "job(4, 3) = NONE", "job(4, 5) = 0", "loose(1) = NONE", "loose(2) = NONE");
        // 4 is loose with 5 and 6 below it; without 6 it has rank 1, as the loose 2: both are cut and linked.
        holdOf(8, 5, "then all is SETTLED", "lower(4, 90) = 1", "lower(2, 95) = 1", "told(7) = 0", "drop(6) = 7", "told(7) = 3", "told(4) = 0", "job(2, 3) = 4", "job(2, 5) = 0", "job(4, 4) = 2");
        hold(4, "then JOINED", "put(0, 1)", "put(0, 2)", "put(0, 3)", "put(0, 4)", "told(3) = 4", "take() = 0", "told(3) = 2", "told(6) = 1", "job(2, 3) = 1", "job(3, 3) = NONE");
    }

    private static void joinAndClear() {
        hold(6, "how many LINKS that made", "join() = 0", "put(0, 1)", "put(0, 1)", "join() = 1", "put(0, 1)", "put(0, 1)", "join() = 2", "told(6) = 3", "join() = 0", "told(6) = 3", "take() = 0", "told(6) = 3", "join() = 0");
        hold(7, "how many JOBS there were", "clear() = 0", "put(0, 1)", "clear() = 1", "clear() = 0", "put(0, 1)", "put(0, 1)", "take()", "clear() = 2", "40 x put(0, 1)", "put(0, 1) = FULL", "clear() = 40", "put(0, 1) = 0");
        holdOf(4, 7, "No JOBS, BENCHES are empty, nothing is counted",
            "lower(1, 50)", "lower(3, 60)", "take() = 1", "sit(0, 0, 1) = NONE", "take() = 3", "sit(1, 7, 3) = NONE", "told(6) = 4", "told(7) = 2", "clear() = 4",
            "told(0) = 0", "told(1) = 0", "told(2) = NONE", "told(3) = 0", "told(4) = 0", "told(5) = NONE", "told(6) = 0", "told(7) = 0", "told(8) = 0", "sits(0, 0) = NONE", "sits(1, 7) = NONE",
            "take() = NOT", "drop(0) = UNKNOWN", "job(0, 0) = UNKNOWN", "bits() = 0", "put(0, 1)", "job(0, 4) = 0", "sit(0, 0, 0) = NOT");
        holdOf(4, 7, "No JOBS: those that are PUT then are new ones",
            "lower(3, 50) = 1", "lower(2, 60) = 1", "clear() = 4", "4 x put(1, 7)", "told(3) = 4", "told(4) = 0", "told(5) = 0", "loose(0) = NONE", "loose(1) = NONE", "job(0, 4) = 0", "child(0, 0) = NONE", "job(3, 3) = NONE", "job(3, 5) = 0", "job(2, 7) = 1");
        hold(7, "No JOBS, BENCHES are empty: THE NET and IMAGES are as they were", "net(2)", "road(0, 1, 3)", "put(0, 1)", "keep(0) = 1", "clear() = 1", "told(9) = 2", "told(10) = 1", "way(0, 1) = 3", "goBack(1) = NOT", "goBack(0) = 1");
    }

    private static void whatIsTold() {
        hold(9, "OUTSIDE.", "told(-1) = OUTSIDE", "told(0) = 0", "told(10) = 0", "told(11) = OUTSIDE", "told(" + MIN + ") = OUTSIDE", "told(" + MAX + ") = OUTSIDE");
        hold(9, "2 the SOONEST (NONE)", "told(2) = NONE", "put(0, 9999)", "told(2) = 0", "take()", "told(2) = NONE", "put(0, -9999)", "told(2) = 1", "clear()", "told(2) = NONE");
        hold(9, "5 the greatest RANK (NONE)", "told(5) = NONE", "put(0, 1)", "told(5) = 0", "put(0, 1)", "told(5) = 0", "join()", "told(5) = 1", "take()", "told(5) = 0", "take()", "told(5) = NONE");
        hold(9, "8 how many are the longest row of JOBS BELOW one another (0: none)", "told(8) = 0", "put(0, 1)", "told(8) = 1", "put(0, 1)", "told(8) = 1", "join()", "told(8) = 2", "take()", "told(8) = 1", "take()", "told(8) = 0", "told(0) = 2");
        hold(9, "0 JOBS, 1 how many STAND", "told(0) = 0", "told(1) = 0", "40 x put(0, 1)", "told(0) = 40", "told(1) = 40", "put(0, 1) = FULL", "take()", "told(0) = 40", "told(1) = 39", "39 x take()", "told(0) = 40", "told(1) = 0");
        hold(9, "3 ROOTS, 4 LOOSE ones (how many)", "told(3) = 0", "told(4) = 0", "40 x put(0, 1)", "told(3) = 40", "join() = 38", "told(3) = 2", "told(4) = 0", "lower(39, 0) = 1", "told(4) = 1", "told(3) = 2", "take() = 39", "told(4) = 0");
        hold(9, "9 PLACES of THE NET, 10 ROADS", "told(9) = 0", "told(10) = 0", "net(1) = OUTSIDE", "told(9) = 0", "net(2)", "told(9) = 2", "14 x road(0, 1, 0)", "told(10) = 14", "road(0, 1, 0) = FULL", "told(10) = 14", "net(8) = 14", "told(9) = 8", "told(10) = 0");
    }

    private static void ofAJob() {
        hold(10, "UNKNOWN, OUTSIDE.",
            "job(0, 0) = UNKNOWN", "put(0, 0)", "job(-1, 0) = UNKNOWN", "job(1, 0) = UNKNOWN", "job(40, 0) = UNKNOWN", "job(" + MIN + ", 0) = UNKNOWN", "job(" + MAX + ", 0) = UNKNOWN",
            "job(0, -1) = OUTSIDE", "job(0, 0) = 0", "job(0, 8) = 0", "job(0, 9) = OUTSIDE", "job(0, " + MIN + ") = OUTSIDE", "job(0, " + MAX + ") = OUTSIDE");
        holdOf(4, 10, "of a TAKEN one 3 is NONE, 4 to 7 are 0",
            "lower(2, 50) = 1", "job(2, 2) = 1", "job(2, 3) = 0", "job(2, 4) = 1", "job(2, 5) = 1", "job(2, 6) = 1", "job(2, 7) = 2", "drop(2) = 3",
            "job(2, 0) = 0", "job(2, 1) = 50", "job(2, 2) = 0", "job(2, 3) = NONE", "job(2, 4) = 0", "job(2, 5) = 0", "job(2, 6) = 0", "job(2, 7) = 0", "job(2, 8) = " + Float.floatToIntBits(3.125f));
        holdOf(4, 10, "6 how many stand above it up to a ROOT, 7 how many JOBS are BELOW it, directly or not, and itself",
            "job(0, 6) = 0", "job(0, 7) = 4", "job(1, 6) = 1", "job(1, 7) = 1", "job(2, 6) = 1", "job(2, 7) = 2", "job(3, 6) = 2", "job(3, 7) = 1", "drop(0) = 3", "job(3, 6) = 1", "job(2, 6) = 0", "job(2, 7) = 2", "job(1, 6) = 0");
        holdOf(4, 11, "NONE: not so many.",
            "child(0, 1) = 2", "child(0, 2) = NONE", "child(0, " + MAX + ") = NONE", "child(2, 0) = 3", "child(2, 1) = NONE", "child(3, 0) = NONE", "drop(2) = 3", "child(2, 0) = NONE", "child(0, 0) = 1", "child(0, 1) = NONE", "take() = 0", "child(0, 0) = NONE");
        holdOf(2, 11, "UNKNOWN, OUTSIDE: k below 0.",
            "child(0, -1) = OUTSIDE", "child(0, 0) = 1", "child(0, " + MIN + ") = OUTSIDE", "child(-1, 0) = UNKNOWN", "child(2, 0) = UNKNOWN", "child(40, 0) = UNKNOWN", "child(" + MIN + ", 0) = UNKNOWN", "child(" + MAX + ", 0) = UNKNOWN");
        holdOf(4, 12, "OUTSIDE: below 0.", "loose(-1) = OUTSIDE", "loose(0) = NONE", "loose(" + MIN + ") = OUTSIDE", "loose(39) = NONE", "loose(40) = NONE", "loose(" + MAX + ") = NONE");
        holdOf(4, 12, "The LOOSE JOB of a RANK; NONE.", "loose(0) = NONE", "loose(1) = NONE", "lower(2, 99) = 1", "loose(0) = NONE", "loose(1) = 2", "loose(2) = NONE", "lower(3, 98) = 1", "loose(0) = 3", "loose(1) = 2", "take() = 3", "loose(0) = 2", "loose(1) = NONE");
    }

    public static void main(String[] args) {
        newObject();
        bounds();
        soonerAndTrees();
        settledAndJoined();
        threeOfOneRank();
        lowered();
        taken();
        joinAndClear();
        whatIsTold();
        ofAJob();
        sentences.end();
    }
}
