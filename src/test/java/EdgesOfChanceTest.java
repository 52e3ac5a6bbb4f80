import java.math.BigInteger;

/** The document's edges, sentence by sentence: seen, rests, chances, slots (promises 21 to 29). */
public final class EdgesOfChanceTest {
    private static final int UNKNOWN = BucketChain.UNKNOWN, BAD = BucketChain.BAD, LATE = BucketChain.LATE;
    private static final int FULL = BucketChain.FULL, NONE = BucketChain.NONE;
    private static final int MIN = Integer.MIN_VALUE, MAX = Integer.MAX_VALUE;
    private static final BigInteger FACTOR = new BigInteger("6364136223846793005");
    private static final BigInteger SUMMAND = new BigInteger("1442695040888963407");
    private static final BigInteger WRAP = BigInteger.ONE.shiftLeft(64);

    public static void main(String[] args) {
        seenBounds();
        see();
        seeRefused();
        unsee();
        firesThereAre();
        fires();
        firesBad();
        restsForBeats();
        restsOfPairs();
        rests();
        restsRefused();
        fallsByTenths();
        falls();
        fallsBad();
        seed();
        seedWraps();
        chances();
        chancesThatCanNotBe();
        nightsTogether();
        nights();
        nightsBad();
        slotsKeep();
        keep();
        keepUnknown();
        again();
        againRefused();
        Check.end();
    }

    private static BucketChain seen(int... sights) {
        BucketChain chain = new BucketChain();
        for (int at = 0; at + 2 < sights.length; at += 3) {
            chain.see(sights[at], sights[at + 1], sights[at + 2]);
        }
        return chain;
    }

    private static void dueFires(String when, BucketChain chain, int count, int first) {
        Check.due(when + ": fires(0)", chain.fires(0), count);
        Check.due(when + ": fires(1)", chain.fires(1), first);
    }

    private static void seenBounds() {
        Check.says("Terms", "SEEN: that an unknown FIRE, on which nothing was THROWN, was v (0 .. 99) or more (1), "
            + "or less (0), behind t (0 .. 9) BEATS: 6 such at most, none at first.");
        Check.due("none at first", new BucketChain().about(12), 0);
        dueFires("0 or more", seen(0, 0, 1), 100, 0);
        dueFires("less than 0", seen(0, 0, 0), 0, NONE);
        dueFires("99 or more", seen(9, 99, 1), 0, NONE);
        dueFires("less than 99", seen(9, 99, 0), 100, 0);
        dueFires("v or more: v is in", seen(0, 9, 1), 10, 90);
        dueFires("less than v: v is out", seen(0, 9, 0), 90, 0);
        dueFires("behind 0 BEATS", seen(0, 5, 1, 0, 6, 0), 10, 50);
        // 1 and 9 times g is 10 or more from g 1 on.
        dueFires("behind 9 BEATS", seen(0, 2, 0, 9, 10, 1), 9, 11);
        dueFires("behind 9 BEATS", seen(0, 2, 0, 9, 11, 1), 8, 12);
        BucketChain chain = new BucketChain();
        for (int count = 1; count <= 5; count++) {
            chain.see(0, 0, 1);
        }
        dueFires("5", chain, 100, 0);
        Check.due("the sixth", chain.see(0, 9, 1), 6);
        dueFires("the sixth is in", chain, 10, 90);
        Check.due("the seventh", chain.see(0, 0, 0), FULL);
        dueFires("the seventh is not", chain, 10, 90);
    }

    private static void see() {
        Check.says("Promise 21", "SEEN: how many there are.");
        BucketChain chain = new BucketChain();
        Check.due("see(0, 0, 0)", chain.see(0, 0, 0), 1);
        Check.due("see(9, 99, 1)", chain.see(9, 99, 1), 2);
        Check.due("the same once more", chain.see(9, 99, 1), 3);
        Check.due("about(12)", chain.about(12), 3);
    }

    private static void seeRefused() {
        Check.says("Promise 21", "BAD: t, v, more (0, 1); FULL: 6.");
        int[][] bad = {{-1, 0, 0}, {10, 0, 0}, {MIN, 0, 0}, {MAX, 0, 0}, {0, -1, 0}, {0, 100, 0}, {0, MIN, 0}, {0, MAX, 0},
            {0, 0, -1}, {0, 0, 2}, {0, 0, MIN}, {0, 0, MAX}, {9, 99, 2}, {10, 99, 1}, {9, 100, 1}, {-1, -1, -1}};
        for (int already : new int[] {0, 5, 6}) {
            BucketChain chain = seen(new int[3 * already]);
            for (int[] see : bad) {
                String call = "of " + already + ": see(" + see[0] + ", " + see[1] + ", " + see[2] + ")";
                Check.due(call, chain.see(see[0], see[1], see[2]), BAD);
                Check.due(call + ": about(12)", chain.about(12), already);
            }
        }
        BucketChain full = seen(0, 1, 1, 0, 1, 1, 0, 1, 1, 0, 1, 1, 0, 1, 1, 0, 1, 1);
        Check.due("a seventh", full.see(0, 0, 0), FULL);
        Check.due("an eighth", full.see(9, 99, 1), FULL);
        Check.due("about(12)", full.about(12), 6);
        dueFires("as it was", full, 90, 10);
    }

    private static void unsee() {
        Check.says("Promise 22", "Nothing is SEEN: how much there was.");
        BucketChain chain = new BucketChain();
        Check.due("of nothing", chain.unsee(), 0);
        for (int count = 1; count <= 6; count++) {
            for (int more = 0; more < count; more++) {
                chain.see(0, 9, 1);
            }
            Check.due("of " + count, chain.unsee(), count);
            Check.due("about(12)", chain.about(12), 0);
            dueFires("nothing is SEEN", chain, 100, 0);
        }
        Check.due("see() behind it", chain.see(0, 9, 1), 1);
        dueFires("one is SEEN", chain, 10, 90);
    }

    private static void firesThereAre() {
        Check.says("Terms", "FIRES: beginnings (0 .. 9) and by how much one GROWS (0 .. 9; one of 0 stays 0) "
            + "by which all that is SEEN is so: how many (100 there are); the first one (10 times the one and the other); NONE.");
        dueFires("nothing is SEEN", new BucketChain(), 100, 0);
        dueFires("one of 0 stays 0", seen(9, 1, 0), 10, 0);
        dueFires("one of 1 that does not grow", seen(0, 1, 1, 9, 2, 0), 1, 10);
        dueFires("9 that grows by 9", seen(9, 90, 1), 1, 99);
        dueFires("more than that", seen(9, 91, 1), 0, NONE);
        // 1 and 81, 2 and 81, .. 9 and 81 is 82 or more; 9 and 72 is 81.
        dueFires("all that grow by 9 but one of 0", seen(9, 82, 1), 9, 19);
        for (int begins = 1; begins <= 9; begins++) {
            for (int grows = 0; grows <= 9; grows++) {
                int end = begins + 9 * grows;
                BucketChain chain = seen(0, begins, 1, 0, begins + 1, 0, 9, end, 1, 9, end + 1, 0);
                dueFires(begins + " by " + grows, chain, 1, 10 * begins + grows);
            }
        }
    }

    private static void fires() {
        Check.says("Promise 23", "FIRES: how many (what = 0), the first one (1); NONE.");
        dueFires("all", new BucketChain(), 100, 0);
        dueFires("none", seen(0, 0, 0), 0, NONE);
        BucketChain chain = Check.night("W4213P0B50", 5);
        dueFires("THE FIRE that burns is not the unknown one", chain, 100, 0);
    }

    private static void firesBad() {
        Check.says("Promise 23", "BAD.");
        for (BucketChain chain : new BucketChain[] {new BucketChain(), seen(0, 0, 0), seen(new int[18])}) {
            for (int what : new int[] {-1, 2, MIN, MAX}) {
                Check.due("fires(" + what + ")", chain.fires(what), BAD);
            }
        }
    }

    private static void dueRests(BucketChain chain, int one, int other, int count, int first) {
        Check.due("rests(" + one + ", " + other + ", 0)", chain.rests(one, other, 0), count);
        Check.due("rests(" + one + ", " + other + ", 1)", chain.rests(one, other, 1), first);
    }

    private static void restsForBeats() {
        Check.says("Terms", "RESTS of two: each works (1), or never hands on, or THROWS, anything (0), "
            + "for 8 BEATS from now on: each has as many as PINTS are THROWN in them, less 6, if it works:");
        // Three pints in beat 2 and, by a way back of 2, in beat 7, the eighth: 6 is what work costs.
        dueRests(Check.night("W0002P0P0B30"), 0, 1, 2, 0);
        // By a way back of 3 it would be the ninth: 3 pints are not worth it.
        dueRests(Check.night("W0003P0P0B30"), 0, 1, 1, 0);
        // From now on: the 9 that were thrown are in no one's count.
        dueRests(Check.night("W0009P0P0B90", 3), 0, 1, 1, 0);
        // In one throw by the last one alone 5 is less than it costs, 7 is more.
        dueRests(Check.night("W0009P0P0B50", 2), 0, 1, 1, 0);
        dueRests(Check.night("W0009P0P0B70", 2), 0, 1, 1, 1);
        // One at the well who rests has a bucket come to it, and keeps it.
        dueRests(Check.night("W0000P0P0P0B90"), 0, 2, 2, 0);
    }

    private static void restsOfPairs() {
        Check.says("Terms", "pairs in which neither has more by another choice alone: how many; "
            + "the first one (10 times the one and the other); NONE.");
        BucketChain last = Check.night("W0009P0P0B90", 2);
        dueRests(last, 0, 1, 1, 1);
        dueRests(last, 1, 0, 1, 10);
        // Both hold 9: the last throws its own in any case, and with the first one's help 18.
        dueRests(Check.night("W0009P0P0B90B90", 2), 0, 1, 1, 11);
        // Both hold, 9 and 6: the first one's work is worth just what it costs, so that it may rest or work.
        BucketChain like = Check.night("W0009P0P0B90B60", 2);
        dueRests(like, 0, 1, 2, 1);
        dueRests(like, 1, 0, 2, 10);
        // 6 by the last one alone: just what it costs, whichever of the two it is.
        BucketChain six = Check.night("W0009P0P0B60", 2);
        dueRests(six, 0, 1, 2, 0);
        dueRests(six, 1, 0, 2, 0);
        // Nothing to be had: both rest.
        dueRests(Check.night("W0000P0P0"), 0, 1, 1, 0);
        // Each alone is of no use; both together are: rest, or work, both.
        dueRests(Check.night("W0000P0P0B90"), 0, 1, 2, 0);
        // What both have is one sum less each one's cost, so that some pair is always settled: never NONE.
        for (int kinds = 0; kinds < 64; kinds++) {
            String text = "W0002P" + kinds % 4 + "P" + kinds / 4 % 4 + "P" + kinds / 16 + "B90B51";
            BucketChain chain = Check.night(text, kinds % 7);
            for (int one = 0; one < 3; one++) {
                int other = (one + 1) % 3;
                int count = chain.rests(one, other, 0);
                Check.due(text + ": 1 .. 4", count >= 1 && count <= 4 ? 1 : 0, 1);
                int first = chain.rests(one, other, 1);
                Check.due(text + ": a pair", first == 0 || first == 1 || first == 10 || first == 11 ? 1 : 0, 1);
            }
        }
    }

    private static void rests() {
        Check.says("Promise 24", "RESTS: how many (what = 0), the first one (1); NONE.");
        BucketChain five = Check.night("W0009P0P0P0P0P0B90", 5);
        dueRests(five, 0, 4, 1, 1);
        dueRests(five, 4, 3, 1, 10);
        dueRests(five, 0, 3, 1, 0);
        String before = Check.picture(five);
        dueRests(five, 3, 4, 1, 1);
        Check.dueSame("rests()", Check.picture(five), before);
        Check.due("nobody rests when it goes on", five.beat(), 9);
    }

    private static void restsRefused() {
        Check.says("Promise 24", "UNKNOWN: both; BAD: both are one, what.");
        for (int people = 0; people <= 5; people++) {
            BucketChain chain = Check.night("W5011" + "P0".repeat(people) + "B50", 2);
            for (int out : new int[] {-1, people, 5, MIN, MAX}) {
                Check.due("of " + people + ": rests(0, " + out + ", 0)", chain.rests(0, out, 0), UNKNOWN);
                Check.due("of " + people + ": rests(" + out + ", 0, 1)", chain.rests(out, 0, 1), UNKNOWN);
                Check.due("both are one: UNKNOWN is told first", chain.rests(out, out, 0), UNKNOWN);
                Check.due("and what: UNKNOWN is told first", chain.rests(0, out, 2), UNKNOWN);
                Check.due("and what: UNKNOWN is told first", chain.rests(out, 0, -1), UNKNOWN);
            }
            for (int person = 0; person < people; person++) {
                Check.due("rests(" + person + ", " + person + ", 0)", chain.rests(person, person, 0), BAD);
                Check.due("rests(" + person + ", " + person + ", 2)", chain.rests(person, person, 2), BAD);
            }
            for (int what : new int[] {-1, 2, MIN, MAX}) {
                int want = people < 2 ? UNKNOWN : BAD;
                Check.due("of " + people + ": rests(0, 1, " + what + ")", chain.rests(0, 1, what), want);
            }
        }
    }

    private static void dueFalls(BucketChain chain, int v, int x, int upper, int lower) {
        Check.dueFraction("falls(" + v + ", " + x + ")",
            chain.falls(v, x, true), chain.falls(v, x, false), upper, lower);
    }

    private static void fallsByTenths() {
        Check.says("Terms", "FALLS: each BUCKET that is HELD is DROPPED now by x tenths (0 .. 10), by itself: "
            + "that v PINTS (0 .. 99) or more are THROWN in 10 BEATS from then on: a FRACTION.");
        BucketChain one = Check.night("W0009P0B50", 1);
        int[][] tenths = {{0, 1, 1}, {1, 9, 10}, {2, 4, 5}, {4, 3, 5}, {5, 1, 2}, {9, 1, 10}, {10, 0, 1}};
        for (int[] x : tenths) {
            dueFalls(one, 5, x[0], x[1], x[2]);
        }
        dueFalls(one, 0, 10, 1, 1);
        dueFalls(one, 6, 0, 0, 1);
        // It is thrown in three beats more and, by a way back of 1, in the tenth beat; by 2 it would be the eleventh.
        dueFalls(Check.night("W0001P0P0P0P0B50", 1), 10, 0, 1, 1);
        dueFalls(Check.night("W0002P0P0P0P0B50", 1), 10, 0, 0, 1);
        dueFalls(Check.night("W0002P0P0P0P0B50", 1), 5, 0, 1, 1);
        // Four are held, each is thrown once if it is not dropped.
        BucketChain four = Check.night("W0009P0P0P0P0B90B90B90B90", 4);
        dueFalls(four, 36, 0, 1, 1);
        dueFalls(four, 37, 0, 0, 1);
        dueFalls(four, 36, 1, 6561, 10000);
        dueFalls(four, 36, 9, 1, 10000);
        dueFalls(four, 36, 10, 0, 1);
        dueFalls(four, 1, 9, 3439, 10000);
        dueFalls(four, 28, 5, 1, 16);
        dueFalls(four, 27, 5, 5, 16);
        dueFalls(four, 0, 10, 1, 1);
        // 0 was thrown and 2 is at the well: 1 alone is held and can be dropped.
        BucketChain away = Check.night("W0009P0B10B90", 2);
        dueFalls(away, 9, 3, 7, 10);
        // By no way back a dropped one is at the well and comes at once: 9 in each beat, or in each but the first.
        BucketChain most = Check.night("W0000P0B90B90", 1);
        dueFalls(most, 90, 1, 9, 10);
        dueFalls(most, 91, 0, 0, 1);
        dueFalls(most, 81, 10, 1, 1);
    }

    private static void falls() {
        Check.says("Promise 25", "FALLS.");
        for (int x = 0; x <= 10; x += 10) {
            dueFalls(new BucketChain(), 0, x, 1, 1);
            dueFalls(new BucketChain(), 1, x, 0, 1);
            dueFalls(new BucketChain(), 99, x, 0, 1);
        }
        // Nothing was HELD yet: it comes, and is thrown in each case.
        dueFalls(Check.night("W0009P0B50"), 5, 10, 1, 1);
        // What was thrown ahead is not in it.
        dueFalls(Check.night("W0009P0B50", 2), 1, 0, 0, 1);
    }

    private static void fallsBad() {
        Check.says("Promise 25", "BAD: v, x.");
        BucketChain[] chains = {new BucketChain(), Check.night("W0009P0P0P0P0B90B90B90B90", 4)};
        for (BucketChain chain : chains) {
            for (int out : new int[] {-1, 100, MIN, MAX}) {
                Check.due("falls(" + out + ", 0, true)", chain.falls(out, 0, true), BAD);
                Check.due("falls(" + out + ", 10, false)", chain.falls(out, 10, false), BAD);
                Check.due("falls(" + out + ", 11, false)", chain.falls(out, 11, false), BAD);
            }
            for (int out : new int[] {-1, 11, MIN, MAX}) {
                Check.due("falls(0, " + out + ", true)", chain.falls(0, out, true), BAD);
                Check.due("falls(99, " + out + ", false)", chain.falls(99, out, false), BAD);
            }
            Check.due("falls(99, 10, true) is in", chain.falls(99, 10, true), 0);
            Check.due("falls(99, 10, false) is in", chain.falls(99, 10, false), 1);
        }
    }

    private static void seed() {
        Check.says("Promise 26", "THE SEED is v: what it was.");
        BucketChain chain = new BucketChain();
        long was = 0;
        for (long v : new long[] {1, -1, Long.MIN_VALUE, Long.MAX_VALUE, 1L << 32, -9, 0, 0}) {
            Check.due("seed(" + v + ")", chain.seed(v), was);
            was = v;
        }
    }

    private static long next(long x) {
        return BigInteger.valueOf(x).multiply(FACTOR).add(SUMMAND).mod(WRAP).longValue();
    }

    /** The seed that becomes x. */
    private static long ahead(long x) {
        return BigInteger.valueOf(x).subtract(SUMMAND).multiply(FACTOR.modInverse(WRAP)).mod(WRAP).longValue();
    }

    private static int chance(long x) {
        return BigInteger.valueOf(x).mod(WRAP).shiftRight(33).mod(BigInteger.valueOf(24)).intValue();
    }

    private static void seedWraps() {
        Check.says("Terms", "NIGHTS by THE SEED: m times (1 .. 30) x (THE SEED, a long; 0 at first) becomes x times "
            + "6364136223846793005 and 1442695040888963407 (64 bits, wrapping);");
        Check.due("0 at first", new BucketChain().seed(5), 0);
        long[] seeds = {0, 1, -1, 2, Long.MAX_VALUE, Long.MIN_VALUE, 1L << 32, -(1L << 32), ahead(0), ahead(-1),
            ahead(Long.MAX_VALUE), ahead(Long.MIN_VALUE)};
        for (long start : seeds) {
            for (int m : new int[] {1, 2, 29, 30}) {
                BucketChain chain = new BucketChain();
                chain.seed(start);
                Check.due("nights(" + m + ") of no FIRE", chain.nights(m), 0);
                long want = start;
                for (int time = 0; time < m; time++) {
                    want = next(want);
                }
                Check.due("THE SEED behind nights(" + m + ") by " + start, chain.seed(0), want);
            }
        }
        BucketChain first = new BucketChain();
        first.nights(1);
        Check.due("0 becomes the summand", first.seed(0), 1442695040888963407L);
        first.seed(ahead(0));
        first.nights(1);
        Check.due("it wraps to 0", first.seed(7), 0);
    }

    /** A seed by which the first chance is this one, by such upper 31 bits, and beats follow. */
    private static long seedFor(long upper, int beats) {
        for (long lower = 0; lower < 1 << 20; lower++) {
            long x = upper << 33 | lower;
            long then = x;
            int met = 0;
            while (met < beats && chance(next(then)) >= 12) {
                then = next(then);
                met++;
            }
            if (met == beats) {
                return ahead(x);
            }
        }
        Check.due("a seed for " + upper, 0, 1);
        return 0;
    }

    /** The one of a chance (0 .. 11) done by its own call; whether it could be. */
    private static boolean done(BucketChain chain, int chance) {
        if (chance < 4) {
            return chain.change(chance, chance + 1) >= 0;
        }
        return chance < 8 ? chain.drop(chance - 4) >= 0 : chain.mend(chance - 8) >= 0;
    }

    /** THE FIRE, each time, together, by the calls of promises 10 to 13; chance 24 or more does nothing. */
    private static int acted(BucketChain chain, int chance, int beats) {
        if (chance < 12) {
            done(chain, chance);
        } else if (chance < 24) {
            chain.beat();
        }
        int sum = chain.about(2);
        for (int beat = 0; beat < beats; beat++) {
            chain.beat();
            sum += chain.about(2);
        }
        return sum;
    }

    /** Told so that each chance makes a difference: see chances(). */
    private static BucketChain toldFor(int chance) {
        if (chance >= 4) {
            // Four hold a pail with a hole each, and none is last; THE FIRE is never out.
            return Check.night("W9909P0P0P0P0P0B91B91B91B91", 4);
        }
        // The next one is a child and last, the pail is at the stand ahead of it, with 9 pints.
        StringBuilder text = new StringBuilder("W9909");
        for (int person = 0; person < 5; person++) {
            text.append(person == chance + 1 ? "P3" : "P0");
        }
        BucketChain chain = Check.night(text + "B90");
        chain.change(chance + 1, 4);
        Check.beats(chain, 4);
        return chain;
    }

    private static void chances() {
        Check.says("Terms", "what is left of its upper 31 bits by 24: 0 .. 3 the one of that number and the next one "
            + "are CHANGED, 4 .. 7 that less 4 BUCKET is DROPPED, 8 .. 11 that less 8 BUCKET is MENDED,");
        for (int chance = 0; chance < 24; chance++) {
            int beats = 6;
            int want = acted(toldFor(chance), chance, beats);
            Check.due("chance " + chance + " makes a difference", want != acted(toldFor(chance), 24, beats) ? 1 : 0, 1);
            // The least and the most upper bits by which this is left, and those on both sides of the long's sign.
            long most = Integer.MAX_VALUE - Math.floorMod(7 - chance, 24);
            long[] uppers = {chance, 24 + chance, (1L << 30) / 24 * 24 + chance, (1L << 30) / 24 * 24 - 24 + chance, most};
            for (long upper : uppers) {
                BucketChain chain = toldFor(chance);
                chain.seed(seedFor(upper, beats));
                Check.due("chance " + chance + " by " + upper, chain.nights(1 + beats), want);
            }
        }
        // The lower 33 bits are not counted: with all of them set it is still the chance of the upper ones.
        BucketChain none = toldFor(0);
        none.seed(ahead((1L << 33) - 1));
        Check.due("upper bits 0, lower all set: CHANGED", none.nights(1), 99);
        BucketChain one = Check.night("W9010");
        one.seed(ahead(-1L));
        Check.due("all 64 bits set: 7 is left, no BEAT", one.nights(1), 90);
        one.seed(ahead(11L << 33 | (1L << 33) - 1));
        Check.due("11 is no BEAT", one.nights(1), 90);
        one.seed(ahead(12L << 33));
        Check.due("12 is a BEAT", one.nights(1), 91);
        one.seed(ahead(23L << 33 | (1L << 33) - 1));
        Check.due("23 is a BEAT", one.nights(1), 91);
        one.seed(ahead(24L << 33));
        Check.due("24 is 0 again, no BEAT", one.nights(1), 90);
    }

    private static void chancesThatCanNotBe() {
        Check.says("Terms", "each if it can be (as JUDGED), 12 .. 23 A BEAT:");
        String[] nights = {"W9010", "W9919P0", "W9919P0B91", "W9919P0P1B50B91", "W9919P0P2P3P1B91B50B91",
            "W9919B91B90B91B90", "W9919P3P2P1P0P0B91B81B71B60"};
        int could = 0, couldNot = 0;
        for (String text : nights) {
            for (int chance = 0; chance < 12; chance++) {
                for (int beats = 0; beats <= 6; beats += 3) {
                    if (done(Check.night(text, beats), chance)) {
                        could++;
                    } else {
                        couldNot++;
                    }
                    BucketChain chain = Check.night(text, beats);
                    chain.seed(seedFor(chance, 6));
                    int want = acted(Check.night(text, beats), chance, 6);
                    Check.due(text + " behind " + beats + ": chance " + chance, chain.nights(7), want);
                }
            }
        }
        Check.due("some could be, some could not", could > 20 && couldNot > 20 ? 1 : 0, 1);
    }

    private static void nightsTogether() {
        Check.says("Terms", "THE FIRE, each time, together. (Nothing changes but THE SEED.)");
        Check.due("nobody, 30 times 99", Check.night("W9990").nights(30), 2970);
        Check.due("nobody, once", Check.night("W9900").nights(1), 99);
        Check.due("of no FIRE", new BucketChain().nights(30), 0);
        for (int start = 0; start < 40; start++) {
            BucketChain chain = Check.night("W6012P0P1P2B91B50B71", start % 9);
            BucketChain goes = Check.night("W6012P0P1P2B91B50B71", start % 9);
            long x = start * 0x9E3779B97F4A7C15L;
            chain.seed(x);
            String before = Check.scene(chain);
            int m = 1 + start % 30;
            int want = 0;
            for (int time = 0; time < m; time++) {
                x = next(x);
                want += acted(goes, chance(x), 0);
            }
            Check.due("nights(" + m + ")", chain.nights(m), want);
            Check.dueSame("nights(" + m + ")", Check.scene(chain), before);
            Check.due("THE SEED alone", chain.seed(0), x);
        }
    }

    private static void nights() {
        Check.says("Promise 27", "NIGHTS.");
        BucketChain chain = Check.night("W5010P0B90", 1);
        chain.seed(7);
        int first = chain.nights(30);
        long then = chain.seed(7);
        Check.due("the same SEED, the same NIGHTS", chain.nights(30), first);
        Check.due("the same SEED then", chain.seed(then), then);
        // 15 and 15 go on in THE SEED as 30 do, each from THE NIGHT as it is.
        chain.seed(7);
        chain.nights(15);
        chain.nights(15);
        Check.due("THE SEED goes on", chain.seed(0), then);
    }

    private static void nightsBad() {
        Check.says("Promise 27", "BAD: m.");
        for (BucketChain chain : new BucketChain[] {new BucketChain(), Check.night("W5010P0B90", 1)}) {
            chain.seed(-5);
            for (int m : new int[] {0, 31, -1, MIN, MAX}) {
                Check.due("nights(" + m + ")", chain.nights(m), BAD);
                Check.due("THE SEED stays", chain.seed(-5), -5);
            }
            Check.due("nights(1) is in", chain.nights(1) >= 0 ? 1 : 0, 1);
            Check.due("nights(30) is in", chain.nights(30) >= 0 ? 1 : 0, 1);
        }
    }

    private static final String BUSY = "W6012P0P1P2B91B50B71B40";

    private static void slotsKeep() {
        Check.says("Terms", "SLOTS 0 .. 1 keep where all are, PINTS, HOLES, THE FIRE, what was THROWN, THE BEAT "
            + "(no ACTS when one goes on).");
        for (int slot = 0; slot <= 1; slot++) {
            BucketChain chain = Check.night(BUSY, 7);
            chain.change(0, 2);
            chain.mend(0);
            chain.keep(slot);
            String kept = withoutActs(chain);
            Check.due("ACTS stay when it is kept", chain.about(11), 9);
            chain.mend(2);
            chain.change(0, 1);
            Check.beats(chain, 5);
            chain.drop(chain.stand(0, 1));
            chain.again(slot);
            Check.dueSame("kept and gone on from", withoutActs(chain), kept);
            Check.due("no ACTS", chain.about(11), 0);
            Check.due("undo()", chain.undo(), LATE);
            Check.beats(chain, 3);
            chain.again(slot);
            Check.dueSame("what is done behind it is not kept", withoutActs(chain), kept);
        }
    }

    private static String withoutActs(BucketChain chain) {
        String[] parts = Check.picture(chain).split(" ");
        parts[11] = "-";
        return String.join(" ", parts);
    }

    private static void keep() {
        Check.says("Promise 28", "They are kept: THE BEAT.");
        BucketChain nothing = new BucketChain();
        Check.due("nobody: keep(0)", nothing.keep(0), 0);
        Check.due("nobody: again(0)", nothing.again(0), 0);
        Check.due("nobody: again(1)", nothing.again(1), LATE);
        BucketChain chain = Check.night(BUSY);
        Check.due("keep(0)", chain.keep(0), 0);
        Check.beats(chain, 20);
        Check.due("keep(1)", chain.keep(1), 20);
        chain.beat();
        Check.due("again(0)", chain.again(0), 0);
        Check.due("again(1)", chain.again(1), 20);
        Check.due("keep(0) once more", chain.keep(0), 20);
        Check.due("the newer one is kept", chain.again(0), 20);
        chain.beat();
        chain.keep(0);
        chain.undo();
        Check.due("undone, but kept", chain.again(0), 21);
        Check.due("the other SLOT stays", chain.again(1), 20);
    }

    private static void keepUnknown() {
        Check.says("Promise 28", "UNKNOWN.");
        BucketChain chain = Check.night(BUSY, 5);
        for (int slot : new int[] {-1, 2, 32, 33, MIN, MAX}) {
            Check.due("keep(" + slot + ")", chain.keep(slot), UNKNOWN);
        }
        Check.due("nothing is kept in 0", chain.again(0), LATE);
        Check.due("nothing is kept in 1", chain.again(1), LATE);
    }

    private static void again() {
        Check.says("Promise 29", "They are as they were kept: THE BEAT.");
        BucketChain chain = Check.night(BUSY, 5);
        chain.keep(1);
        chain.see(0, 9, 1);
        chain.seed(3);
        chain.write('x');
        Check.beats(chain, 4);
        Check.due("again(1)", chain.again(1), 5);
        Check.due("THE BEAT", chain.about(5), 5);
        Check.due("SEEN is not kept", chain.about(12), 1);
        Check.due("THE SEED is not kept", chain.seed(3), 3);
        Check.due("THE TEXT is not kept", chain.about(13), BUSY.length() + 1);
        Check.due("again(1) once more", chain.again(1), 5);
        chain.beat();
        Check.due("ACTS begin anew", chain.about(11), 1);
        Check.due("undo()", chain.undo(), 0);
        Check.due("as it was kept", chain.about(5), 5);
    }

    private static void againRefused() {
        Check.says("Promise 29", "UNKNOWN; LATE: none were kept.");
        BucketChain chain = Check.night(BUSY, 5);
        String before = Check.picture(chain);
        for (int slot : new int[] {-1, 2, 32, 33, MIN, MAX}) {
            Check.due("again(" + slot + ")", chain.again(slot), UNKNOWN);
        }
        Check.due("again(0)", chain.again(0), LATE);
        Check.due("again(1)", chain.again(1), LATE);
        Check.dueSame("again()", Check.picture(chain), before);
        Check.due("ACTS stay", chain.undo(), 4);
        chain.keep(0);
        Check.due("kept in the other SLOT alone", chain.again(1), LATE);
        chain.night();
        Check.due("gone by a new NIGHT", chain.again(0), LATE);
        Check.due("UNKNOWN when nothing is kept", chain.again(2), UNKNOWN);
    }
}
