/** Promises 21 to 29: what is seen, rests, chances, slots. */
public final class ChancesTest {
    private static final int UNKNOWN = BucketChain.UNKNOWN, BAD = BucketChain.BAD, LATE = BucketChain.LATE;
    private static final int FULL = BucketChain.FULL, NONE = BucketChain.NONE;

    public static void main(String[] args) {
        see();
        fires();
        rests();
        falls();
        seed();
        nights();
        slots();
        Check.end();
    }

    private static void see() {
        BucketChain chain = new BucketChain();
        Check.due("see(-1, 0, 0)", chain.see(-1, 0, 0), BAD);
        Check.due("see(10, 0, 0)", chain.see(10, 0, 0), BAD);
        Check.due("see(0, -1, 0)", chain.see(0, -1, 0), BAD);
        Check.due("see(0, 100, 0)", chain.see(0, 100, 0), BAD);
        Check.due("see(0, 0, -1)", chain.see(0, 0, -1), BAD);
        Check.due("see(0, 0, 2)", chain.see(0, 0, 2), BAD);
        Check.due("nothing is seen", chain.about(12), 0);
        for (int count = 1; count <= 6; count++) {
            Check.due("see number " + count, chain.see(9, 99, 0), count);
        }
        Check.due("see number 7", chain.see(0, 0, 1), FULL);
        Check.due("BAD is told ahead of FULL", chain.see(10, 0, 1), BAD);
        Check.due("about(12)", chain.about(12), 6);
        Check.due("unsee()", chain.unsee(), 6);
        Check.due("unsee() again", chain.unsee(), 0);
        Check.due("see behind unsee", chain.see(0, 0, 1), 1);
    }

    private static void fires() {
        BucketChain chain = new BucketChain();
        Check.due("fires(0) of nothing", chain.fires(0), 100);
        Check.due("fires(1) of nothing", chain.fires(1), 0);
        chain.see(0, 5, 1);
        Check.due("5 or more", chain.fires(0), 50);
        Check.due("5 or more, the first", chain.fires(1), 50);
        chain.see(0, 6, 0);
        Check.due("less than 6", chain.fires(0), 10);
        chain.see(9, 50, 1);
        Check.due("5 and 9 times 5 is 50", chain.fires(0), 5);
        Check.due("the first of them", chain.fires(1), 55);
        chain.see(9, 50, 0);
        Check.due("never so", chain.fires(0), 0);
        Check.due("never so: first", chain.fires(1), NONE);
        chain.unsee();
        chain.see(3, 1, 0);
        Check.due("a fire of 0 stays 0", chain.fires(0), 10);
        chain.unsee();
        chain.see(9, 90, 1);
        Check.due("90 at most", chain.fires(1), 99);
        chain.unsee();
        chain.see(5, 0, 0);
        Check.due("less than 0", chain.fires(0), 0);
        Check.due("fires(2)", chain.fires(2), BAD);
        Check.due("fires(-1)", chain.fires(-1), BAD);
    }

    private static void dueRests(String text, int one, int other, int count, int first) {
        BucketChain chain = Check.night(text);
        Check.due(text + ": rests " + one + " " + other, chain.rests(one, other, 0), count);
        Check.due(text + ": rests first " + one + " " + other, chain.rests(one, other, 1), first);
    }

    private static void rests() {
        // In 8 beats a pail of 9 is thrown in beats 2, 5: 18, but only if both work.
        dueRests("W0000P0P0B90", 0, 1, 2, 0);
        // Two pails of 3 are thrown in beats 2, 3, 5, 6: 12. Work is worth it if the other works.
        dueRests("W0000P0P0B30B30", 0, 1, 2, 0);
        // One pail of 2: 4 pints are not worth 6.
        dueRests("W0000P0P0B20", 0, 1, 1, 0);
        // Exactly 6: who works has no less by it.
        dueRests("W0000P0P0B30", 0, 1, 2, 0);
        BucketChain chain = Check.night("W0000P0P0P0B90");
        Check.due("rests(0, 3, 0)", chain.rests(0, 3, 0), UNKNOWN);
        Check.due("rests(-1, 0, 0)", chain.rests(-1, 0, 0), UNKNOWN);
        Check.due("rests(3, 3, 2): UNKNOWN is told first", chain.rests(3, 3, 2), UNKNOWN);
        Check.due("rests(1, 1, 0)", chain.rests(1, 1, 0), BAD);
        Check.due("rests(0, 1, 2)", chain.rests(0, 1, 2), BAD);
        Check.due("rests(0, 1, -1)", chain.rests(0, 1, -1), BAD);
        // A pail of 9 is with the last one: who throws it has 3 by that, whatever the other does, who rests.
        BucketChain near = Check.night("W0009P0P0B90");
        Check.beats(near, 2);
        Check.due("near: rests(0, 1, 0)", near.rests(0, 1, 0), 1);
        Check.due("near: rests(0, 1, 1)", near.rests(0, 1, 1), 1);
        Check.due("near: rests(1, 0, 1)", near.rests(1, 0, 1), 10);
    }

    private static void dueFalls(BucketChain chain, int v, int x, int upper, int lower) {
        Check.dueFraction("falls(" + v + ", " + x + ")",
            chain.falls(v, x, true), chain.falls(v, x, false), upper, lower);
    }

    private static void falls() {
        BucketChain nobody = new BucketChain();
        dueFalls(nobody, 0, 5, 1, 1);
        dueFalls(nobody, 1, 5, 0, 1);
        // One with a pail of 5 in hand, a way back of 9: held it is thrown at once, dropped in no time.
        BucketChain one = Check.night("W0009P0B50");
        one.beat();
        dueFalls(one, 5, 3, 7, 10);
        dueFalls(one, 5, 5, 1, 2);
        dueFalls(one, 5, 0, 1, 1);
        dueFalls(one, 5, 10, 0, 1);
        dueFalls(one, 6, 0, 0, 1);
        dueFalls(one, 0, 4, 1, 1);
        // With no way back it is there again, thrown in every other beat: 25 in either case.
        BucketChain near = Check.night("W0000P0B50");
        near.beat();
        dueFalls(near, 25, 4, 1, 1);
        dueFalls(near, 26, 4, 0, 1);
        // Two are held, each by itself: both are thrown by 49 of 100, one or more by 91.
        BucketChain two = Check.night("W0009P0P0B50B50");
        Check.beats(two, 2);
        dueFalls(two, 10, 3, 49, 100);
        dueFalls(two, 5, 3, 91, 100);
        dueFalls(two, 10, 5, 1, 4);
        dueFalls(two, 99, 5, 0, 1);
        String before = Check.picture(two);
        Check.due("falls(-1, 0)", two.falls(-1, 0, true), BAD);
        Check.due("falls(100, 0)", two.falls(100, 0, true), BAD);
        Check.due("falls(0, -1)", two.falls(0, -1, false), BAD);
        Check.due("falls(0, 11)", two.falls(0, 11, false), BAD);
        Check.dueSame("falls", Check.picture(two), before);
    }

    private static void seed() {
        BucketChain chain = new BucketChain();
        Check.due("seed(5)", chain.seed(5L), 0);
        Check.due("seed(MIN)", chain.seed(Long.MIN_VALUE), 5);
        Check.due("seed(MAX)", chain.seed(Long.MAX_VALUE), Long.MIN_VALUE);
        Check.due("seed(0)", chain.seed(0), Long.MAX_VALUE);
        chain.nights(1);
        Check.due("the seed goes on", chain.seed(0), 1442695040888963407L);
        chain.nights(2);
        Check.due("twice", chain.seed(0), 1442695040888963407L * 6364136223846793005L + 1442695040888963407L);
    }

    /** What the first night by a seed does, told by the document's words. */
    private static int chosen(long seed) {
        long x = seed * 6364136223846793005L + 1442695040888963407L;
        return (int) ((x >>> 33) % 24);
    }

    private static void nights() {
        BucketChain chain = Check.night("W1010P0P0B50");
        boolean[] met = new boolean[24];
        for (int turn = 0; turn < 300; turn++) {
            // An object is used for 512 calls at most.
            chain = turn % 100 == 0 ? Check.night("W1010P0P0B50") : chain;
            long seed = turn * 0x9E3779B97F4A7C15L;
            met[chosen(seed)] = true;
            chain.seed(seed);
            Check.due("nights(1) by " + seed, chain.nights(1), chosen(seed) >= 12 ? 11 : 10);
        }
        for (int choice = 0; choice < 24; choice++) {
            Check.due("choice " + choice + " was met", met[choice] ? 1 : 0, 1);
        }
        String before = Check.picture(chain);
        Check.due("nights(0)", chain.nights(0), BAD);
        Check.due("nights(31)", chain.nights(31), BAD);
        Check.due("nights(-1)", chain.nights(-1), BAD);
        Check.dueSame("refused nights", Check.picture(chain), before);
        long seed = chain.seed(0);
        chain.seed(seed);
        chain.nights(30);
        chain.seed(seed);
        Check.dueSame("nights, but for the seed", Check.picture(chain), before);
    }

    private static void slots() {
        BucketChain chain = Check.night("W5011P0P2P1B91B51");
        Check.due("keep(-1)", chain.keep(-1), UNKNOWN);
        Check.due("keep(2)", chain.keep(2), UNKNOWN);
        Check.due("again(-1)", chain.again(-1), UNKNOWN);
        Check.due("again(2)", chain.again(2), UNKNOWN);
        Check.due("again(0) of nothing", chain.again(0), LATE);
        Check.beats(chain, 4);
        chain.change(0, 1);
        chain.seed(8);
        Check.due("keep(0)", chain.keep(0), 4);
        Check.due("acts stay when it is kept", chain.about(11), 5);
        Check.due("again(1) of nothing", chain.again(1), LATE);
        String kept = Check.picture(chain);
        chain.mend(0);
        Check.beats(chain, 3);
        chain.change(0, 2);
        Check.due("keep(1)", chain.keep(1), 7);
        chain.beat();
        Check.due("again(0)", chain.again(0), 4);
        Check.due("no acts", chain.about(11), 0);
        Check.due("undo()", chain.undo(), LATE);
        // All but the acts is as it was kept.
        String back = Check.picture(chain);
        Check.dueSame("again", withoutActs(back), withoutActs(kept));
        Check.due("again(1)", chain.again(1), 7);
        chain.see(1, 1, 1);
        chain.seed(9);
        Check.due("again(0) once more", chain.again(0), 4);
        Check.due("seen is not kept", chain.about(12), 1);
        Check.due("the seed is not kept", chain.seed(0), 9);
        chain.keep(0);
        chain.beat();
        Check.due("kept anew", chain.keep(0), 5);
        Check.due("again(0), the newer", chain.again(0), 5);
    }

    private static String withoutActs(String picture) {
        String[] parts = picture.split(" ");
        parts[11] = "-";
        return String.join(" ", parts);
    }
}
