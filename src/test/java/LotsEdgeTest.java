import java.math.BigInteger;
import java.util.ArrayList;
import java.util.List;
import java.util.function.Predicate;

/** Section 3 of the document, sentence by sentence: bits of keys and of their sum, and moves by lots (promises 8, 10, 13). */
public final class LotsEdgeTest {
    private static final Sentences sentences = new Sentences("LotsEdgeTest");
    private static final int MIN = Integer.MIN_VALUE;
    private static final int MAX = Integer.MAX_VALUE;

    private static void hold(int promise, String words, String... rows) {
        sentences.hold(promise, words, rows);
    }

    private static void holdBehind(String[] first, int promise, String words, String... rows) {
        sentences.hold(promise, words, Sentences.rows(first, rows));
    }

    private static void bitsOfKeys() {
        hold(10, "one bit for the sign, eight for the power of two and 127, then 23 behind the point of 1",
            "put(0, 16)", "job(0, 8) = " + 0x3F800000, "put(0, -16)", "job(1, 8) = " + 0xBF800000, "put(0, 1)", "job(2, 8) = " + 0x3D800000, "put(0, -1)", "job(3, 8) = " + 0xBD800000,
            "put(0, 15)", "job(4, 8) = " + 0x3F700000, "put(0, 17)", "job(5, 8) = " + 0x3F880000, "put(0, 32)", "job(6, 8) = " + 0x40000000, "put(0, -24)", "job(7, 8) = " + 0xBFC00000);
        hold(10, "BITS of a KEY: at the bounds, and where a power of two is come to",
            "put(0, 9999)", "job(0, 8) = " + Float.floatToIntBits(624.9375f), "put(0, -9999)", "job(1, 8) = " + Float.floatToIntBits(-624.9375f),
            "put(0, 8191)", "job(2, 8) = " + Float.floatToIntBits(511.9375f), "put(0, 8192)", "job(3, 8) = " + Float.floatToIntBits(512f), "put(0, -8193)", "job(4, 8) = " + Float.floatToIntBits(-512.0625f));
        hold(10, "0 is 0", "put(0, 0)", "job(0, 8) = 0", "put(0, 1)", "lower(1, 0)", "job(1, 8) = 0", "lower(1, -1)", "job(1, 8) = " + 0xBD800000, "take() = 1", "job(1, 8) = " + 0xBD800000);
    }

    private static void bitsOfTheSum() {
        hold(13, "64 bits of it / 16 as one of double length (one, eleven and 1023, 52)",
            "put(0, 16)", "bits() = 0x3FF0000000000000", "put(0, -32)", "bits() = 0xBFF0000000000000", "put(0, 17)", "bits() = 0x3FB0000000000000", "put(0, -2)", "bits() = 0xBFB0000000000000", "put(0, 33)", "bits() = 0x4000000000000000");
        hold(13, "0 is 0 .. likewise", "bits() = 0", "put(0, 0)", "bits() = 0", "put(0, 5)", "put(0, -5)", "bits() = 0", "drop(1)", "bits() = 0xBFD4000000000000", "put(0, 9999)", "lower(3, 5)", "bits() = 0");
        hold(13, "the sum of KEYS of all that STAND", "put(0, 16)", "put(0, 32)", "bits() = 0x4008000000000000", "take() = 0", "bits() = 0x4000000000000000", "take() = 1", "bits() = 0", "clear()", "bits() = 0");
        hold(13, "LONG BITS of the sum: the greatest", "39 x put(0, 9999)", "bits() = " + Double.doubleToLongBits(39 * 9999 / 16.0), "put(0, 9999)", "bits() = " + Double.doubleToLongBits(40 * 9999 / 16.0));
        hold(13, "LONG BITS of the sum: the least", "39 x put(0, -9999)", "bits() = " + Double.doubleToLongBits(39 * -9999 / 16.0), "put(0, -9999)", "bits() = " + Double.doubleToLongBits(40 * -9999 / 16.0));
        hold(13, "LONG BITS of the sum: beyond 2 to the 18th", "26 x put(0, 9999)", "put(0, 2169)", "bits() = " + Double.doubleToLongBits(262143 / 16.0), "put(0, 1)", "bits() = 0x40D0000000000000", "put(0, 1)", "bits() = " + Double.doubleToLongBits(262145 / 16.0));
    }

    /** What X becomes, again and again, reckoned without a bound on numbers. */
    private static int[] numbersOf(int seed) {
        int[] numbers = new int[8];
        BigInteger x = BigInteger.valueOf(seed);
        for (int i = 0; i < numbers.length; i++) {
            x = x.multiply(BigInteger.valueOf(16807)).mod(BigInteger.valueOf(2147483647));
            numbers[i] = x.intValueExact();
        }
        return numbers;
    }

    private static int seedWhere(Predicate<int[]> wanted) {
        for (int seed = 1; seed <= 999999; seed++) {
            if (wanted.test(numbersOf(seed))) {
                return seed;
            }
        }
        throw new IllegalStateException("no such seed");
    }

    private static String[] times(int n, String row) {
        return new String[] {n + " x " + row};
    }

    private static void bounds() {
        hold(8, "n times (1 .. 40)",
            "drift(0, 1) = OUTSIDE", "drift(-1, 1) = OUTSIDE", "drift(41, 1) = OUTSIDE", "drift(" + MIN + ", 1) = OUTSIDE", "drift(" + MAX + ", 1) = OUTSIDE", "told(0) = 0");
        hold(8, "a SEED (1 .. 999999)",
            "drift(1, 0) = OUTSIDE", "drift(1, -1) = OUTSIDE", "drift(1, 1000000) = OUTSIDE", "drift(1, " + MIN + ") = OUTSIDE", "drift(1, " + MAX + ") = OUTSIDE", "told(0) = 0");
        for (int n : new int[] {1, 2, 39, 40}) {
            for (int seed : new int[] {1, 2, 3, 7, 999997, 999998, 999999}) {
                flat(n, seed);
            }
        }
    }

    /** What stands, and its keys, do not hang on trees: a row of keys is enough (null: taken). */
    private static void flat(int n, int seed) {
        List<Integer> keys = new ArrayList<>();
        List<Integer> standing = new ArrayList<>();
        BigInteger[] x = {BigInteger.valueOf(seed)};
        for (int turn = 0; turn < n; turn++) {
            int lot = next(x, 4);
            if (lot < 2 && keys.size() < 40) {
                next(x, 2);
                standing.add(keys.size());
                keys.add(next(x, 1000));
            } else if (lot == 2 && !standing.isEmpty()) {
                int job = standing.get(next(x, standing.size()));
                keys.set(job, keys.get(job) - next(x, 100));
            } else if (lot == 3 && !standing.isEmpty()) {
                Integer soonest = standing.get(0);
                for (Integer job : standing) {
                    soonest = keys.get(job) < keys.get(soonest) ? job : soonest;
                }
                standing.remove(soonest);
            }
        }
        List<String> rows = new ArrayList<>();
        rows.add("drift(" + n + ", " + seed + ") = " + standing.size());
        rows.add("told(0) = " + keys.size());
        for (int job = 0; job < keys.size(); job++) {
            rows.add("job(" + job + ", 1) = " + keys.get(job));
            rows.add("job(" + job + ", 2) = " + (standing.contains(job) ? 1 : 0));
        }
        hold(8, "n times BY LOTS of a SEED: how many STAND", rows.toArray(new String[0]));
    }

    private static int next(BigInteger[] x, int by) {
        x[0] = x[0].multiply(BigInteger.valueOf(16807)).mod(BigInteger.valueOf(2147483647));
        return x[0].mod(BigInteger.valueOf(by)).intValueExact();
    }

    private static void puts() {
        for (int lot = 0; lot < 2; lot++) {
            for (int key : new int[] {0, 1, 999}) {
                int sort = lot;
                int seed = seedWhere(x -> x[0] % 4 == sort && x[2] % 1000 == key);
                int kind = numbersOf(seed)[1] % 2;
                hold(8, "0, 1: .. a JOB of KIND X left over by 2, KEY X left over by 1000 is PUT", "drift(1, " + seed + ") = 1", "told(0) = 1", "job(0, 0) = " + kind, "job(0, 1) = " + key, "job(0, 2) = 1");
            }
        }
    }

    /** With room the second lot is the fourth number, without it the second. */
    private static void room() {
        for (int lot = 0; lot < 2; lot++) {
            int sort = lot;
            int seed = seedWhere(x -> x[0] % 4 == sort && x[1] % 4 == 3 && x[3] % 4 != 3 && x[3] % 4 != 2);
            String drift = "drift(2, " + seed + ")";
            holdBehind(times(40, "put(0, 1000)"), 8, "if there is room", "drift(1, " + seed + ") = 40", "told(0) = 40", "told(3) = 40", drift + " = 39", "told(0) = 40", "job(0, 2) = 0");
            holdBehind(times(39, "put(0, 1000)"), 8, "if there is room", drift + " = 40", "told(0) = 40", "job(39, 1) = " + numbersOf(seed)[2] % 1000);
            holdBehind(times(38, "put(0, 1000)"), 8, "if there is room", drift + " = 40", "told(0) = 40", "job(38, 1) = " + numbersOf(seed)[2] % 1000, "job(39, 1) = " + numbersOf(seed)[5] % 1000);
        }
    }

    /** A lot that finds none that stands wants no more numbers: the next lot is the next number. */
    private static void noneStands() {
        for (int lot = 2; lot < 4; lot++) {
            int sort = lot;
            int seed = seedWhere(x -> x[0] % 4 == sort && x[1] % 4 < 2 && x[3] % 1000 != x[5] % 1000);
            String key = " = " + numbersOf(seed)[3] % 1000;
            String drift = "drift(2, " + seed + ") = 1";
            hold(8, "if any STANDS", "drift(1, " + seed + ") = 0", "told(0) = 0", drift, "told(0) = 1", "job(0, 1)" + key);
            hold(8, "if any STANDS", "put(0, 5)", "take()", "drift(1, " + seed + ") = 0", "job(0, 1) = 5", "told(0) = 1", drift, "job(0, 1) = 5", "job(1, 1)" + key);
        }
    }

    private static int loweringSeed(int amount) {
        return seedWhere(x -> x[0] % 4 == 2 && x[2] % 100 == amount);
    }

    private static void amounts() {
        String words = "is LOWERED by X left over by 100, if that .. is above 0";
        hold(8, words, "put(0, 500)", "drift(1, " + loweringSeed(0) + ") = 1", "job(0, 1) = 500", "drift(1, " + loweringSeed(1) + ") = 1", "job(0, 1) = 499", "drift(1, " + loweringSeed(99) + ") = 1", "job(0, 1) = 400");
        hold(8, words, "put(0, 50)", "drift(1, " + loweringSeed(50) + ") = 1", "job(0, 1) = 0", "drift(1, " + loweringSeed(1) + ") = 1", "job(0, 1) = -1", "drift(1, " + loweringSeed(0) + ") = 1", "job(0, 1) = -1");
        // An amount of 0 is a number that was wanted all the same: the next lot is the fourth number.
        int seed = seedWhere(x -> x[0] % 4 == 2 && x[2] % 100 == 0 && x[3] % 4 == 3);
        hold(8, words, "put(0, 500)", "drift(2, " + seed + ") = 0", "job(0, 1) = 500");
        // 1 is below 0, and of its key: an amount of 1 makes it loose, one of 0 does not.
        int none = seedWhere(x -> x[0] % 4 == 2 && x[1] % 2 == 1 && x[2] % 100 == 0);
        int one = seedWhere(x -> x[0] % 4 == 2 && x[1] % 2 == 1 && x[2] % 100 == 1);
        hold(8, words, "put(0, 5)", "put(0, 5)", "join() = 1", "drift(1, " + none + ") = 2", "told(4) = 0", "job(1, 1) = 5", "drift(1, " + one + ") = 2", "told(4) = 1", "loose(0) = 1", "job(1, 1) = 4");
    }

    private static void keysAtTheirBound() {
        String words = "is LOWERED .., if that keeps it in its bounds";
        for (int amount : new int[] {1, 2, 50, 99}) {
            String drift = "drift(1, " + loweringSeed(amount) + ") = 1";
            hold(8, words, "put(0, " + (amount - 9998) + ")", drift, "job(0, 1) = -9998");
            hold(8, words, "put(0, " + (amount - 9999) + ")", drift, "job(0, 1) = -9999");
            hold(8, words, "put(0, " + (amount - 10000) + ")", drift, "job(0, 1) = " + (amount - 10000));
            hold(8, words, "put(0, -9999)", drift, "job(0, 1) = -9999");
        }
        hold(8, words, "put(0, 9999)", "drift(1, " + loweringSeed(99) + ") = 1", "job(0, 1) = 9900");
        int seed = seedWhere(x -> x[0] % 4 == 2 && x[2] % 100 == 7 && x[3] % 4 == 3);
        hold(8, words, "put(0, -9999)", "drift(2, " + seed + ") = 0", "job(0, 1) = -9999");
    }

    private static void whichOne() {
        String words = "that of them which is the X left over by how many there are (rising by number)";
        int first = seedWhere(x -> x[0] % 4 == 2 && x[1] % 3 == 0 && x[1] % 5 == 4 && x[2] % 100 == 9);
        int last = seedWhere(x -> x[0] % 4 == 2 && x[1] % 3 == 2 && x[1] % 5 == 0 && x[2] % 100 == 9);
        String[] fiveOfWhichThreeStand = {"put(0, 700)", "put(0, 600)", "put(0, 500)", "put(0, 400)", "put(0, 300)", "drop(0)", "drop(3) = 3"};
        holdBehind(fiveOfWhichThreeStand, 8, words, "drift(1, " + first + ") = 3", "job(0, 1) = 700", "job(1, 1) = 591", "job(2, 1) = 500", "job(3, 1) = 400", "job(4, 1) = 300");
        holdBehind(fiveOfWhichThreeStand, 8, words, "drift(1, " + last + ") = 3", "job(0, 1) = 700", "job(1, 1) = 600", "job(2, 1) = 500", "job(3, 1) = 400", "job(4, 1) = 291");
        int take = seedWhere(x -> x[0] % 4 == 3);
        holdBehind(fiveOfWhichThreeStand, 8, "3: if any STANDS, the SOONEST is TAKEN", "drift(1, " + take + ") = 2", "job(4, 2) = 0", "drift(1, " + take + ") = 1", "job(2, 2) = 0", "drift(1, " + take + ") = 0", "drift(1, " + take + ") = 0", "told(0) = 5");
    }

    private static void longNumbers() {
        // 999999 times 16807 is 16806983193, 7 times 2147483647 and 1774597664: in 32 bits it would be another number.
        int[] x = numbersOf(999999);
        if (x[0] != 1774597664) {
            throw new IllegalStateException("the test reckons wrongly");
        }
        hold(8, "X becomes what is left of (X times 16807) by 2147483647", "drift(1, 999999) = 1", "job(0, 0) = " + x[1] % 2, "job(0, 1) = " + x[2] % 1000);
        hold(8, "X (the SEED at first)", "drift(1, 999999) = 1", "drift(1, 999999) = 2", "job(1, 0) = " + x[1] % 2, "job(1, 1) = " + x[2] % 1000);
    }

    public static void main(String[] args) {
        bitsOfKeys();
        bitsOfTheSum();
        bounds();
        puts();
        room();
        noneStands();
        amounts();
        keysAtTheirBound();
        whichOne();
        longNumbers();
        sentences.end();
    }
}
