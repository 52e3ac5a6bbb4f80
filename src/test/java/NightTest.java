/** Promises 1 to 9: the text, the night, and what can be looked at. */
public final class NightTest {
    private static final int UNKNOWN = BucketChain.UNKNOWN, BAD = BucketChain.BAD, LATE = BucketChain.LATE;
    private static final int FULL = BucketChain.FULL, NONE = BucketChain.NONE;

    public static void main(String[] args) {
        newObject();
        writeAndWipe();
        faults();
        nightMade();
        nightRefused();
        aboutEach();
        personEach();
        standEach();
        bucketEach();
        Check.end();
    }

    private static void newObject() {
        BucketChain chain = new BucketChain();
        for (int what = 0; what <= 13; what++) {
            Check.due("new: about(" + what + ")", chain.about(what), 0);
        }
        Check.due("new: person(0, 0)", chain.person(0, 0), UNKNOWN);
        Check.due("new: stand(0, 0)", chain.stand(0, 0), UNKNOWN);
        Check.due("new: bucket(0, 0)", chain.bucket(0, 0), UNKNOWN);
        Check.due("new: seed(0)", chain.seed(0), 0);
        Check.due("new: again(0)", chain.again(0), LATE);
        Check.due("new: unsee()", chain.unsee(), 0);
    }

    private static void writeAndWipe() {
        BucketChain chain = new BucketChain();
        Check.due("write(-1)", chain.write(-1), BAD);
        Check.due("write(256)", chain.write(256), BAD);
        Check.due("write(MIN)", chain.write(Integer.MIN_VALUE), BAD);
        Check.due("refused bytes are not there", chain.about(13), 0);
        Check.due("write(0)", chain.write(0), 1);
        Check.due("write(255)", chain.write(255), 2);
        for (int length = 3; length <= 36; length++) {
            Check.due("write number " + length, chain.write('P'), length);
        }
        Check.due("write to 36", chain.write('P'), FULL);
        Check.due("write(-1) to 36: BAD is told first", chain.write(-1), BAD);
        Check.due("about(13)", chain.about(13), 36);
        Check.due("wipe()", chain.wipe(), 36);
        Check.due("wipe() again", chain.wipe(), 0);
        Check.due("write behind wipe", chain.write('W'), 1);
    }

    private static void fault(String text, int want) {
        BucketChain chain = new BucketChain();
        Check.tell(chain, text);
        Check.due("fault() of '" + text + "'", chain.fault(), want);
        Check.due("night() of '" + text + "'", chain.night() == LATE ? 1 : 0, want == NONE ? 0 : 1);
    }

    private static void faults() {
        String head = "W0000";
        for (int length = 0; length < 5; length++) {
            fault(head.substring(0, length), length);
            fault(head.substring(0, length) + "x", length);
        }
        fault(head, NONE);
        fault("W9999", NONE);
        fault("w0000", 0);
        fault("0", 0);
        fault("W:000", 1);
        fault("W0/00", 2);
        fault("W0000 ", 5);
        fault("W0000p0", 5);
        fault("W0000P", 6);
        fault("W0000P3", NONE);
        fault("W0000P4", 6);
        fault("W0000P/", 6);
        fault("W0000B", 6);
        fault("W0000B0", 6);
        fault("W0000B1", 7);
        fault("W0000B10", NONE);
        fault("W0000B91", NONE);
        fault("W0000B92", 7);
        fault("W0000BP", 6);
        fault("W0000P0B10P1B21", NONE);
        fault("W0000P0P0P0P0P0", NONE);
        fault("W0000P0P0P0P0P0P", 15);
        fault("W0000P0P0P0P0P0B", 16);
        fault("W0000B10B10B10B10", NONE);
        fault("W0000B10B10B10B10B", 17);
        fault("W0000B10B10B10B10P", 18);
        fault("W9999P0P0P0P0P0B10B10B10B10", NONE);
        fault("W9999P0P0P0P0P0B10B10B10B10PPPPPPPPP", 27);
        fault("W0000X", 5);
        fault("W0000PxP9", 6);
        fault("W000" + (char) 176, 4);
    }

    private static void nightMade() {
        BucketChain chain = Check.night("W4212P0P1P2P3B90B71B50");
        Check.beats(chain, 7);
        chain.drop(0);
        chain.mend(1);
        chain.change(0, 3);
        chain.keep(0);
        chain.see(1, 2, 1);
        chain.seed(77);
        Check.due("night() anew", chain.night(), 43);
        Check.due("THE TEXT stays", chain.about(13), 22);
        Check.due("fire anew", chain.about(2), 42);
        Check.due("beat anew", chain.about(5), 0);
        Check.due("thrown anew", chain.about(6), 0);
        Check.due("none held", chain.about(7), 0);
        Check.due("all at the well", chain.about(8), 7);
        Check.due("none under way", chain.about(9), 0);
        Check.due("holes as told", chain.about(10), 2);
        Check.due("no acts", chain.about(11), 0);
        Check.due("seen stays", chain.about(12), 1);
        Check.due("the seed stays", chain.seed(0), 77);
        Check.due("what was kept is gone", chain.again(0), LATE);
        Check.due("all stand as told", chain.person(0, 1), 0);
        Check.due("no act to undo", chain.undo(), LATE);
        chain.wipe();
        Check.due("a wiped text leaves the night", chain.about(0), 4);
        Check.tell(chain, "W0000");
        Check.due("night() of nobody", chain.night(), 0);
        Check.due("nobody", chain.about(0), 0);
        Check.due("no bucket", chain.about(8), 0);
        Check.due("the first of 4 is gone", chain.person(0, 0), UNKNOWN);
    }

    private static void nightRefused() {
        BucketChain chain = Check.night("W4212P0P1B90");
        Check.beats(chain, 3);
        chain.keep(1);
        Check.tell(chain, "W9900P3P");
        String before = Check.picture(chain);
        Check.due("night() of a fault", chain.night(), LATE);
        Check.dueSame("a refused night", Check.picture(chain), before);
        Check.due("kept ones stay", chain.again(1), 3);
    }

    private static void aboutEach() {
        BucketChain chain = Check.night("W4213P0P0B90B71B50");
        Check.beats(chain, 3);
        int[] want = {2, 3, 36, 1, 3, 3, 9, 3, 0, 1, 2, 3, 0, 18};
        for (int what = 0; what < want.length; what++) {
            Check.due("about(" + what + ")", chain.about(what), want[what]);
        }
        Check.due("about(-1)", chain.about(-1), BAD);
        Check.due("about(14)", chain.about(14), BAD);
    }

    private static void personEach() {
        BucketChain chain = Check.night("W0000P3P1P2");
        Check.due("person(0, 0)", chain.person(0, 0), 3);
        Check.due("person(1, 0)", chain.person(1, 0), 1);
        Check.due("person(2, 0)", chain.person(2, 0), 2);
        chain.change(0, 2);
        Check.due("person(0, 1)", chain.person(0, 1), 2);
        Check.due("person(1, 1)", chain.person(1, 1), 1);
        Check.due("person(2, 1)", chain.person(2, 1), 0);
        Check.due("the kind goes along", chain.person(0, 0), 3);
        Check.due("person(3, 0)", chain.person(3, 0), UNKNOWN);
        Check.due("person(-1, 0)", chain.person(-1, 0), UNKNOWN);
        Check.due("person(3, 2): UNKNOWN is told first", chain.person(3, 2), UNKNOWN);
        Check.due("person(0, 2)", chain.person(0, 2), BAD);
        Check.due("person(0, -1)", chain.person(0, -1), BAD);
    }

    private static void standEach() {
        BucketChain chain = Check.night("W0000P3P1P2B50");
        chain.change(0, 1);
        Check.beats(chain, 2);
        Check.due("stand(0, 0)", chain.stand(0, 0), 1);
        Check.due("stand(1, 0)", chain.stand(1, 0), 0);
        Check.due("stand(2, 0)", chain.stand(2, 0), 2);
        Check.due("stand(0, 1)", chain.stand(0, 1), NONE);
        Check.due("stand(1, 1)", chain.stand(1, 1), 0);
        Check.due("stand(3, 0)", chain.stand(3, 0), UNKNOWN);
        Check.due("stand(-1, 1)", chain.stand(-1, 1), UNKNOWN);
        Check.due("stand(8, 5): UNKNOWN is told first", chain.stand(8, 5), UNKNOWN);
        Check.due("stand(0, 2)", chain.stand(0, 2), BAD);
        Check.due("stand(0, -1)", chain.stand(0, -1), BAD);
    }

    private static void bucketEach() {
        // Three beats: bucket 0 was thrown in the last one, bucket 1 is at stand 1, bucket 2 at stand 0.
        BucketChain chain = Check.night("W4213P0P0B90B71B50B10");
        Check.beats(chain, 3);
        int[][] want = {{9, 0, 9, 0, 3}, {7, 1, 1, 5, 0}, {5, 0, 0, 5, 0}, {1, 0, 8, 0, 0}};
        for (int bucket = 0; bucket < want.length; bucket++) {
            for (int what = 0; what < 5; what++) {
                Check.due("bucket(" + bucket + ", " + what + ")", chain.bucket(bucket, what), want[bucket][what]);
            }
        }
        Check.due("bucket(4, 0)", chain.bucket(4, 0), UNKNOWN);
        Check.due("bucket(-1, 0)", chain.bucket(-1, 0), UNKNOWN);
        Check.due("bucket(4, 9): UNKNOWN is told first", chain.bucket(4, 9), UNKNOWN);
        Check.due("bucket(0, 5)", chain.bucket(0, 5), BAD);
        Check.due("bucket(0, -1)", chain.bucket(0, -1), BAD);
    }
}
