/** Promises 15 to 20: what is to come, and that asking changes nothing. */
public final class AheadTest {
    private static final int UNKNOWN = BucketChain.UNKNOWN, BAD = BucketChain.BAD, NONE = BucketChain.NONE;

    public static void main(String[] args) {
        later();
        out();
        swap();
        line();
        judgeDoings();
        judgeRefused();
        share();
        nothingChanges();
        Check.end();
    }

    private static void later() {
        BucketChain chain = Check.night("W2012P0P0P0B50");
        Check.due("later(0, 0)", chain.later(0, 0), 20);
        Check.due("later(3, 0)", chain.later(3, 0), 23);
        Check.due("later(4, 0)", chain.later(4, 0), 19);
        Check.due("later(3, 1)", chain.later(3, 1), 0);
        Check.due("later(4, 1)", chain.later(4, 1), 5);
        Check.due("later(40, 1)", chain.later(40, 1), 35);
        Check.beats(chain, 4);
        Check.due("thrown in all: the past too", chain.later(0, 1), 5);
        Check.due("later(41, 0)", chain.later(41, 0), BAD);
        Check.due("later(-1, 0)", chain.later(-1, 0), BAD);
        Check.due("later(0, 2)", chain.later(0, 2), BAD);
        Check.due("later(0, -1)", chain.later(0, -1), BAD);
    }

    private static void out() {
        Check.due("out() of no fire", Check.night("W0010").out(), 0);
        Check.due("out() of nobody", Check.night("W0100").out(), NONE);
        BucketChain chain = Check.night("W1200P0B60");
        Check.due("out()", chain.out(), 4);
        chain.beat();
        Check.due("out() a beat later", chain.out(), 3);
        // One pint in every other beat: the 30th is thrown in the 60th beat, the 31st in the 62nd.
        Check.due("out() in 60", Check.night("W3000P0B10").out(), 60);
        Check.due("out() in more", Check.night("W3100P0B10").out(), NONE);
    }

    private static void swap() {
        BucketChain alone = Check.night("W0000P0B50");
        Check.due("one alone: swap(2, 0)", alone.swap(2, 0), 5);
        Check.due("one alone: swap(2, 1)", alone.swap(2, 1), 99);
        // The child at the well makes it two pints; nobody else does it harm but as a stand on the way.
        BucketChain chain = Check.night("W0000P0P1B90");
        Check.due("swap(3, 0)", chain.swap(3, 0), 9);
        Check.due("none is best", chain.swap(3, 1), 99);
        BucketChain clumsy = Check.night("W0000P1P0P0B90");
        Check.due("clumsy: swap(4, 0)", clumsy.swap(4, 0), 9);
        Check.due("clumsy: to the end", clumsy.swap(4, 1), 2);
        BucketChain like = Check.night("W0000P0P0B90");
        Check.due("of like ones none", like.swap(3, 1), 99);
        BucketChain least = Check.night("W0000P0P1P0P1P0B90");
        Check.due("swap(6, 0)", least.swap(6, 0), 8);
        Check.due("of like ones the least", least.swap(6, 1), 14);
        clumsy.change(0, 1);
        Check.due("numbers, not stands", clumsy.swap(4, 1), 2);
        clumsy.change(0, 2);
        Check.beats(clumsy, 4);
        Check.due("thrown in all: the past too", clumsy.swap(1, 0), 9);
        Check.due("swap(0, 0)", chain.swap(0, 0), BAD);
        Check.due("swap(-1, 0)", chain.swap(-1, 0), BAD);
        Check.due("swap(20, 0)", chain.swap(20, 0), 54);
        Check.due("swap(21, 0)", chain.swap(21, 0), BAD);
        Check.due("swap(1, 2)", chain.swap(1, 2), BAD);
        Check.due("swap(1, -1)", chain.swap(1, -1), BAD);
    }

    private static void line() {
        BucketChain nobody = Check.night("W0000B50");
        Check.due("nobody: line(1, 0)", nobody.line(1, 0), 0);
        Check.due("nobody: line(1, 1)", nobody.line(1, 1), 0);
        BucketChain alone = Check.night("W0000P2B50");
        Check.due("one alone: line(3, 0)", alone.line(3, 0), 5);
        Check.due("one alone: line(3, 1)", alone.line(3, 1), 1);
        // Two clumsy ones and one plain: one clumsy one throws, and of those orders the least one is told.
        BucketChain chain = Check.night("W0000P1P1P0B90");
        Check.due("line(4, 0)", chain.line(4, 0), 8);
        Check.due("line(4, 1)", chain.line(4, 1), 132);
        chain.change(0, 2);
        Check.due("the order is by numbers, not by stands now", chain.line(4, 1), 132);
        BucketChain five = Check.night("W0000P1P0P0P0P0B90");
        Check.due("line(6, 0)", five.line(6, 0), 9);
        Check.due("line(6, 1)", five.line(6, 1), 23451);
        Check.due("line(20, 0)", five.line(20, 0), 27);
        Check.due("line(5, 1): nothing is thrown in any order", five.line(5, 1), 12345);
        // What is held stays: with the pail at the last stand already, a clumsy one there spills nothing.
        BucketChain held = Check.night("W0009P0P1P0B90");
        Check.beats(held, 3);
        Check.due("spilt by the one in the middle", held.bucket(0, 3), 8);
        Check.due("what is held stays", held.line(1, 0), 8);
        held.beat();
        Check.due("thrown in all: the past too", held.line(1, 0), 8);
        Check.due("line(0, 0)", chain.line(0, 0), BAD);
        Check.due("line(21, 0)", chain.line(21, 0), BAD);
        Check.due("line(1, 2)", chain.line(1, 2), BAD);
        Check.due("line(1, -1)", chain.line(1, -1), BAD);
    }

    private static void judged(BucketChain chain, int n, long row, int want) {
        Check.due("judge(" + n + ", " + row + ")", chain.judge(n, row), want);
    }

    private static void judgeDoings() {
        BucketChain chain = Check.night("W2502P0P1P0B91B50");
        chain.beat();
        judged(chain, 1, 0L, NONE);
        judged(chain, 1, 1L, 0);
        judged(chain, 1, 10L, 0);
        judged(chain, 1, 101L, NONE);
        judged(chain, 1, 111L, 0);
        judged(chain, 1, 103L, 0);
        judged(chain, 1, 130L, 0);
        judged(chain, 1, 200L, NONE);
        judged(chain, 1, 210L, 0);
        judged(chain, 1, 201L, 0);
        judged(chain, 1, 202L, 0);
        judged(chain, 2, 200200L, 1);
        judged(chain, 1, 300L, NONE);
        judged(chain, 1, 310L, 0);
        judged(chain, 1, 301L, 0);
        judged(chain, 1, 302L, 0);
        judged(chain, 2, 300300L, 1);
        judged(chain, 1, 400L, NONE);
        judged(chain, 1, 410L, 0);
        judged(chain, 1, 401L, 0);
        judged(chain, 1, 404L, 0);
        judged(chain, 1, 480L, 0);
        judged(chain, 1, 481L, 0);
        judged(chain, 1, 508L, NONE);
        judged(chain, 1, 509L, 0);
        judged(chain, 1, 510L, 0);
        judged(chain, 1, 540L, 0);
        judged(chain, 1, 625L, NONE);
        judged(chain, 1, 624L, 0);
        judged(chain, 1, 699L, NONE);
        judged(chain, 1, 700L, 0);
        judged(chain, 1, 999L, 0);
        // Doings work on one another: a beat moves it on, the hole and the clumsy one take from it.
        judged(chain, 3, 410L, 2);
        judged(chain, 2, 410L, NONE);
        judged(chain, 3, 410507L, NONE);
        judged(chain, 3, 410508L, 2);
        judged(chain, 4, 200000410508L, NONE);
        judged(chain, 4, 200000410509L, 3);
        judged(chain, 4, 101000000505L, NONE);
        judged(chain, 4, 101000000506L, 3);
        judged(chain, 4, 616000000000L, 0);
    }

    private static void judgeRefused() {
        BucketChain chain = Check.night("W2502P0P1P0B91B50");
        judged(chain, 0, 0L, BAD);
        judged(chain, 5, 0L, BAD);
        judged(chain, -1, 0L, BAD);
        judged(chain, 1, -1L, BAD);
        judged(chain, 1, 1000L, BAD);
        judged(chain, 2, 1000000L, BAD);
        judged(chain, 2, 999999L, 0);
        judged(chain, 4, 1000000000000L, BAD);
        judged(chain, 4, 999999999999L, 0);
        judged(chain, 4, Long.MAX_VALUE, BAD);
        judged(chain, 4, Long.MIN_VALUE, BAD);
    }

    private static void fraction(BucketChain chain, int bucket, int upper, int lower) {
        Check.dueFraction("share(" + bucket + ")", chain.share(bucket, true), chain.share(bucket, false), upper, lower);
    }

    private static void share() {
        BucketChain one = Check.night("W0000P0B50");
        fraction(one, 0, 30, 1);
        one.beat();
        fraction(one, 0, 30, 1);
        // A slow one alone throws in 2, 4, .. 10 of the beats 0 .. 11, whichever comes: 45 and 5 pints alone.
        BucketChain slow = Check.night("W0000P2B90B10");
        // Both: they come in turn, 9 1 9 1 9; so 45 and 29 - 45 in the one order, 29 - 5 and 5 in the other.
        fraction(slow, 0, 69, 2);
        fraction(slow, 1, -11, 2);
        BucketChain nobody = Check.night("W0000B50");
        fraction(nobody, 0, 0, 1);
        Check.due("share(1, true)", one.share(1, true), UNKNOWN);
        Check.due("share(-1, false)", one.share(-1, false), UNKNOWN);
    }

    private static void nothingChanges() {
        BucketChain chain = Check.night("W4212P0P1P2P3B90B71B50");
        Check.beats(chain, 6);
        String before = Check.picture(chain);
        chain.later(40, 0);
        chain.later(40, 1);
        chain.out();
        chain.swap(20, 0);
        chain.line(20, 1);
        chain.judge(4, 0L);
        chain.judge(3, 101201000L);
        chain.share(1, true);
        chain.rests(0, 1, 0);
        chain.falls(3, 5, true);
        chain.fault();
        Check.dueSame("asking", Check.picture(chain), before);
    }
}
