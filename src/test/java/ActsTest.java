/** Promises 10 to 14: beats, changes, mending, dropping, undoing. */
public final class ActsTest {
    private static final int UNKNOWN = BucketChain.UNKNOWN, BAD = BucketChain.BAD, LATE = BucketChain.LATE;
    private static final int NONE = BucketChain.NONE;

    public static void main(String[] args) {
        plainBeats();
        clumsyAndChild();
        childAtTheWell();
        slowOnes();
        holes();
        wayBack();
        fireGrows();
        jam();
        change();
        mend();
        drop();
        undo();
        fullRow();
        Check.end();
    }

    private static void plainBeats() {
        BucketChain chain = Check.night("W2002P0P0P0B50");
        // Thrown in beat 3 it has two beats to go, 4 and 5, comes in beat 6 and is thrown in beat 9.
        int[] thrown = {0, 0, 0, 5, 0, 0, 0, 0, 0, 5};
        for (int beat = 0; beat < thrown.length; beat++) {
            Check.due("plain: beat " + beat, chain.beat(), thrown[beat]);
        }
        Check.due("plain: thrown", chain.about(6), 10);
        Check.due("plain: fire", chain.about(2), 10);
        Check.due("plain: THE BEAT", chain.about(5), 10);
        BucketChain nobody = Check.night("W1010B50");
        Check.due("nobody: beat", nobody.beat(), 0);
        Check.due("nobody: the bucket stays", nobody.bucket(0, 2), 8);
        Check.due("nobody: the fire grows", nobody.about(2), 11);
        BucketChain dry = Check.night("W1010P0");
        Check.due("no bucket: beat", dry.beat(), 0);
        Check.due("no bucket: THE BEAT", dry.about(5), 1);
    }

    private static void clumsyAndChild() {
        // Three pints: the clumsy one spills one first, then the child's two are no less.
        BucketChain chain = Check.night("W0000P1P3P0B30");
        Check.beats(chain, 2);
        Check.due("spilt ahead of the child's measure", chain.bucket(0, 3), 2);
        chain.beat();
        Check.due("a child spills nothing", chain.bucket(0, 3), 2);
        BucketChain one = Check.night("W0000P1P1P1B10");
        Check.beats(one, 3);
        Check.due("spilt to 0, not below", one.bucket(0, 3), 0);
        Check.due("an empty one is thrown", one.beat(), 0);
        Check.due("an empty one is at the well again", one.bucket(0, 2), 8);
        BucketChain last = Check.night("W0000P0P1B50");
        Check.beats(last, 2);
        Check.due("a clumsy one throws all", last.beat(), 5);
        BucketChain passed = Check.night("W0000P0P3B90");
        Check.beats(passed, 2);
        Check.due("handed to a child", passed.bucket(0, 3), 2);
    }

    private static void childAtTheWell() {
        BucketChain chain = Check.night("W0000P3B90B10");
        chain.beat();
        Check.due("a child's full", chain.bucket(0, 3), 2);
        chain.beat();
        Check.due("less than a child holds", chain.bucket(1, 3), 1);
        BucketChain holed = Check.night("W0000P3B91");
        holed.beat();
        Check.due("a hole takes from the child's two", holed.bucket(0, 3), 1);
    }

    private static void slowOnes() {
        // It comes in beat 0, could go in beat 1 but goes in beat 2, is thrown in beat 3 by a plain one.
        BucketChain chain = Check.night("W0000P2P0B40");
        Check.beats(chain, 2);
        Check.due("slow in beat 1", chain.bucket(0, 2), 0);
        chain.beat();
        Check.due("slow in beat 2", chain.bucket(0, 2), 1);
        Check.due("thrown in beat 3", chain.beat(), 4);
        chain = Check.night("W0000P2B40");
        int[] thrown = {0, 0, 4, 0, 4};
        for (int beat = 0; beat < thrown.length; beat++) {
            // In beat 2 it is thrown; in beat 3 it comes again, and in beat 4 the slow one throws it.
            Check.due("slow thrower: beat " + beat, chain.beat(), thrown[beat]);
        }
    }

    private static void holes() {
        BucketChain chain = Check.night("W0000P0P0P0B21");
        chain.beat();
        Check.due("a hole in the beat in which it comes", chain.bucket(0, 3), 1);
        chain.beat();
        Check.due("a hole", chain.bucket(0, 3), 0);
        chain.beat();
        Check.due("a hole, not below 0", chain.bucket(0, 3), 0);
    }

    private static void wayBack() {
        BucketChain chain = Check.night("W0002P0B30");
        Check.beats(chain, 2);
        Check.due("thrown: place", chain.bucket(0, 2), 9);
        Check.due("thrown: to go", chain.bucket(0, 4), 2);
        chain.beat();
        Check.due("one beat behind it", chain.bucket(0, 4), 1);
        chain.beat();
        Check.due("at the well", chain.bucket(0, 2), 8);
        Check.due("nothing to go", chain.bucket(0, 4), 0);
        chain.beat();
        Check.due("filled in the next beat", chain.bucket(0, 2), 0);
        BucketChain none = Check.night("W0000P0B30");
        Check.beats(none, 2);
        Check.due("no way back: at the well, not filled in the same beat", none.bucket(0, 2), 8);
        BucketChain least = Check.night("W0000P0B90B10B50");
        least.beat();
        Check.due("the least number comes, not the least size", least.stand(0, 1), 0);
        least.beat();
        Check.due("then the next one", least.stand(0, 1), 1);
        least.beat();
        Check.due("the least at the well is the one that was thrown first", least.stand(0, 1), 0);
    }

    private static void fireGrows() {
        BucketChain chain = Check.night("W9590");
        chain.beat();
        Check.due("99 at most", chain.about(2), 99);
        BucketChain zero = Check.night("W0090");
        zero.beat();
        Check.due("a fire of 0 stays 0", zero.about(2), 0);
        BucketChain out = Check.night("W0590P0B90");
        Check.beats(out, 1);
        Check.due("it grew", out.about(2), 14);
        out.beat();
        Check.due("thrown ahead of growing", out.about(2), 14);
        BucketChain done = Check.night("W0140P0B90");
        Check.beats(done, 2);
        Check.due("out, and 0 at least", done.about(2), 0);
        Check.due("all pints count as thrown", done.about(6), 9);
    }

    private static void jam() {
        // The slow last one jams the chain in odd beats: each stand is full and stays as it is.
        BucketChain chain = Check.night("W0000P0P2B10B20B30");
        Check.beats(chain, 3);
        Check.due("jam: at the last stand", chain.stand(1, 1), 1);
        Check.due("jam: at the first stand", chain.stand(0, 1), 2);
        Check.due("jam: nothing is thrown in an odd beat", chain.beat(), 0);
        Check.due("jam: the last stays", chain.stand(1, 1), 1);
        Check.due("jam: the first stays", chain.stand(0, 1), 2);
        Check.due("jam: thrown in an even beat", chain.beat(), 2);
        Check.due("jam: all go on in the same beat", chain.stand(1, 1), 2);
        Check.due("jam: and one comes", chain.stand(0, 1), 0);
    }

    private static void change() {
        BucketChain chain = Check.night("W0000P0P3P1B90");
        chain.beat();
        Check.due("change(0, 1)", chain.change(0, 1), 1);
        Check.due("what is held stays", chain.bucket(0, 2), 0);
        Check.due("pints as they are", chain.bucket(0, 3), 9);
        Check.due("change(2, 0)", chain.change(2, 0), 1);
        Check.due("the other's stand", chain.person(0, 1), 2);
        String before = Check.picture(chain);
        Check.due("change(0, 3)", chain.change(0, 3), UNKNOWN);
        Check.due("change(3, 0)", chain.change(3, 0), UNKNOWN);
        Check.due("change(-1, 0)", chain.change(-1, 0), UNKNOWN);
        Check.due("change(3, 3): UNKNOWN is told first", chain.change(3, 3), UNKNOWN);
        Check.due("change(1, 1)", chain.change(1, 1), BAD);
        Check.dueSame("a refused change", Check.picture(chain), before);
    }

    private static void mend() {
        BucketChain chain = Check.night("W0000P0B91B90B81");
        String before = Check.picture(chain);
        Check.due("mend(3)", chain.mend(3), UNKNOWN);
        Check.due("mend(-1)", chain.mend(-1), UNKNOWN);
        Check.due("mend(1)", chain.mend(1), LATE);
        Check.dueSame("a refused mend", Check.picture(chain), before);
        Check.due("mend(0)", chain.mend(0), 1);
        Check.due("mend(0) again", chain.mend(0), LATE);
        Check.due("holes", chain.about(10), 4);
        chain.beat();
        Check.due("mended it keeps its pints", chain.bucket(0, 3), 9);
        Check.due("mend(2)", chain.mend(2), 0);
    }

    private static void drop() {
        BucketChain chain = Check.night("W1003P0P0B90B70");
        String before = Check.picture(chain);
        Check.due("drop(2)", chain.drop(2), UNKNOWN);
        Check.due("drop(-1)", chain.drop(-1), UNKNOWN);
        Check.due("drop at the well", chain.drop(0), LATE);
        Check.dueSame("a refused drop", Check.picture(chain), before);
        Check.beats(chain, 2);
        Check.due("drop(0)", chain.drop(0), 9);
        Check.due("dropped: place", chain.bucket(0, 2), 9);
        Check.due("dropped: to go", chain.bucket(0, 4), 3);
        Check.due("dropped: pints", chain.bucket(0, 3), 0);
        Check.due("dropped is not thrown", chain.about(6), 0);
        Check.due("drop on its way back", chain.drop(0), LATE);
        chain.beat();
        Check.due("one beat less", chain.bucket(0, 4), 2);
        BucketChain near = Check.night("W1000P0P0B90");
        near.beat();
        Check.due("drop with no way back", near.drop(0), 9);
        Check.due("it is at the well", near.bucket(0, 2), 8);
    }

    private static void undo() {
        BucketChain chain = Check.night("W5011P0P2P1B91B51");
        Check.due("undo() of nothing", chain.undo(), LATE);
        String[] pictures = new String[15];
        int acts = 0;
        for (int turn = 0; turn < 5; turn++) {
            pictures[acts++] = Check.picture(chain);
            chain.beat();
        }
        pictures[acts++] = Check.picture(chain);
        chain.change(0, 2);
        pictures[acts++] = Check.picture(chain);
        chain.mend(0);
        pictures[acts++] = Check.picture(chain);
        int held = chain.bucket(0, 2) < 5 ? 0 : 1;
        Check.due("a held one is dropped", chain.drop(held) >= 0 ? 1 : 0, 1);
        pictures[acts++] = Check.picture(chain);
        chain.beat();
        while (acts > 0) {
            acts--;
            Check.due("undo()", chain.undo(), acts);
            Check.dueSame("undone", Check.picture(chain), pictures[acts]);
        }
        Check.due("undo() of no more", chain.undo(), LATE);
        Check.due("the bucket is at the well again", chain.stand(0, 1), NONE);
    }

    private static void fullRow() {
        BucketChain chain = Check.night("W0000P0P0");
        for (int act = 1; act <= 40; act++) {
            chain.beat();
            Check.due("acts", chain.about(11), Math.min(14, act));
        }
        for (int left = 13; left >= 0; left--) {
            Check.due("undo()", chain.undo(), left);
            Check.due("THE BEAT", chain.about(5), 26 + left);
        }
        Check.due("undo() of forgotten ones", chain.undo(), LATE);
        Check.due("THE BEAT stays", chain.about(5), 26);
        chain.change(0, 1);
        Check.due("acts go on", chain.about(11), 1);
    }
}
