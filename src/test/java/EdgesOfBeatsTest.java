/** The document's edges, sentence by sentence: beats and the other acts (promises 10 to 14). */
public final class EdgesOfBeatsTest {
    private static final int UNKNOWN = BucketChain.UNKNOWN, BAD = BucketChain.BAD, LATE = BucketChain.LATE;
    private static final int NONE = BucketChain.NONE;
    private static final int MIN = Integer.MIN_VALUE, MAX = Integer.MAX_VALUE;
    private static final int WELL = 8, BACK = 9;

    public static void main(String[] args) {
        whereBucketsAre();
        pints();
        lastThrows();
        lastRests();
        handedOn();
        spilt();
        handedToChild();
        comesFromWell();
        wellForChild();
        leaks();
        runsBack();
        fireGrows();
        beatIsOneMore();
        slowOnes();
        beat();
        changed();
        change();
        changeRefused();
        mended();
        mend();
        mendRefused();
        dropped();
        drop();
        dropRefused();
        actsAreARow();
        undo();
        undoLate();
        allCallsOfAnObject();
        Check.end();
    }

    private static void dueBucket(String when, BucketChain chain, int bucket, int place, int pints, int toGo) {
        Check.due(when + ": place of " + bucket, chain.bucket(bucket, 2), place);
        Check.due(when + ": PINTS of " + bucket, chain.bucket(bucket, 3), pints);
        Check.due(when + ": to go for " + bucket, chain.bucket(bucket, 4), toGo);
    }

    private static void whereBucketsAre() {
        Check.says("Terms", "A BUCKET is HELD at a STAND (one at most at each), at THE WELL, "
            + "or on its WAY BACK (so many BEATS yet).");
        BucketChain chain = Check.night("W0002P0P2P1B91B50B21B10");
        for (int beat = 0; beat < 30; beat++) {
            int held = chain.about(7), well = chain.about(8), back = chain.about(9);
            int stands = Integer.bitCount(held);
            Check.due("each BUCKET is somewhere", stands + Integer.bitCount(well) + Integer.bitCount(back), 4);
            Check.due("none is at two places", well & back, 0);
            for (int stand = 0; stand < 3; stand++) {
                int bucket = chain.stand(stand, 1);
                Check.due("the bit of a STAND", held >> stand & 1, bucket == NONE ? 0 : 1);
                Check.due("its BUCKET is there", bucket == NONE ? stand : chain.bucket(bucket, 2), stand);
            }
            chain.beat();
        }
    }

    private static void pints() {
        Check.says("Terms", "HELD it has PINTS, 0 and more.");
        dueBucket("a BUCKET of 1 with a HOLE", Check.night("W0000P0B11", 1), 0, 0, 0, 0);
        dueBucket("a BUCKET of 9", Check.night("W0000P0B90", 1), 0, 0, 9, 0);
        BucketChain empty = Check.night("W0003P0P0P0B11", 3);
        dueBucket("an empty one is handed on", empty, 0, 2, 0, 0);
        Check.due("an empty one is thrown", empty.beat(), 0);
        dueBucket("an empty one runs back", empty, 0, BACK, 0, 3);
    }

    private static void lastThrows() {
        Check.says("Terms", "A BEAT, in this order: (a) who is at the last STAND, and HOLDS a BUCKET, THROWS it, "
            + "if at work: THE FIRE is less by its PINTS (0 at least), the BUCKET is on its WAY BACK.");
        int[][] fires = {{0, 0}, {1, 0}, {4, 0}, {5, 0}, {6, 1}, {10, 5}, {99, 94}};
        for (int[] fire : fires) {
            BucketChain chain = Check.night("W" + fire[0] / 10 + fire[0] % 10 + "03P0B50", 1);
            Check.due("on a FIRE of " + fire[0] + ": beat()", chain.beat(), 5);
            Check.due("on a FIRE of " + fire[0] + ": THE FIRE", chain.about(2), fire[1]);
            Check.due("on a FIRE of " + fire[0] + ": THROWN", chain.about(6), 5);
            dueBucket("thrown", chain, 0, BACK, 0, 3);
        }
        BucketChain free = Check.night("W5000P0P0B50", 1);
        Check.due("the last one HOLDS none", free.beat(), 0);
        Check.due("not in the BEAT in which it is handed to the last", free.bucket(0, 2), 1);
    }

    private static void lastRests() {
        BucketChain slow = Check.night("W5003P2B50", 1);
        Check.due("not at work: beat()", slow.beat(), 0);
        Check.due("not at work: THE FIRE", slow.about(2), 50);
        dueBucket("not at work", slow, 0, 0, 5, 0);
        Check.due("at work: beat()", slow.beat(), 5);
    }

    private static void handedOn() {
        Check.says("Terms", "(b) from the last STAND but one down to STAND 0: who HOLDS a BUCKET hands it on, "
            + "if at work, and at the next STAND none is HELD:");
        BucketChain one = Check.night("W0000P0P0P0P0P0B50");
        for (int stand = 0; stand < 5; stand++) {
            one.beat();
            dueBucket("one STAND in a BEAT", one, 0, stand, 5, 0);
        }
        BucketChain row = Check.night("W0003P0P0P0B10B20B30B40", 3);
        row.beat();
        dueBucket("the last was thrown ahead", row, 0, BACK, 0, 3);
        dueBucket("all hand on in one BEAT", row, 1, 2, 2, 0);
        dueBucket("all hand on in one BEAT", row, 2, 1, 3, 0);
        dueBucket("the free STAND 0 is filled", row, 3, 0, 4, 0);
        // The slow last one holds 1 and keeps it in beat 5; nobody ahead of it can hand on.
        BucketChain full = Check.night("W0003P0P0P2B10B20B30B40", 5);
        dueBucket("ahead of it", full, 1, 2, 2, 0);
        dueBucket("ahead of it", full, 2, 1, 3, 0);
        dueBucket("ahead of it", full, 3, 0, 4, 0);
        full.beat();
        dueBucket("the next STAND is not free", full, 1, 2, 2, 0);
        dueBucket("the next STAND is not free", full, 2, 1, 3, 0);
        dueBucket("the next STAND is not free", full, 3, 0, 4, 0);
        // A slow one in the middle: in beat 3 the last hands off, the slow one keeps it, the first is stuck.
        BucketChain middle = Check.night("W0009P0P2P0B10B20B30", 3);
        middle.beat();
        Check.due("the slow one keeps it", middle.bucket(1, 2), 1);
        Check.due("the one ahead is stuck", middle.bucket(2, 2), 0);
        Check.due("the next STAND is free", middle.stand(2, 1), NONE);
    }

    private static void spilt() {
        Check.says("Terms", "CLUMSY: it has 1 PINT less (0 at least);");
        int[][] loads = {{1, 0}, {2, 1}, {9, 8}};
        for (int[] load : loads) {
            BucketChain chain = Check.night("W0000P1P0B" + load[0] + "0", 2);
            Check.due("of " + load[0], chain.bucket(0, 3), load[1]);
        }
        BucketChain empty = Check.night("W0000P1P1P1B10", 3);
        dueBucket("of 0", empty, 0, 2, 0, 0);
        Check.due("what is thrown is not spilt", Check.night("W0000P1B50", 1).beat(), 5);
        // In beat 3 the slow last one holds 1, and the clumsy one can not hand on 2.
        BucketChain stuck = Check.night("W0000P1P2B50B50B50", 4);
        dueBucket("what is not handed on is not spilt", stuck, 2, 0, 5, 0);
        Check.due("who is handed it spills nothing", Check.night("W0000P0P1B50", 2).bucket(0, 3), 5);
    }

    private static void handedToChild() {
        Check.says("Terms", "if the one at the next STAND is a CHILD, it has 2 PINTS at most.");
        int[][] plain = {{1, 1}, {2, 2}, {3, 2}, {9, 2}};
        for (int[] load : plain) {
            Check.due("of " + load[0], Check.night("W0000P0P3B" + load[0] + "0", 2).bucket(0, 3), load[1]);
        }
        int[][] clumsy = {{1, 0}, {2, 1}, {3, 2}, {4, 2}};
        for (int[] load : clumsy) {
            Check.due("spilt, of " + load[0], Check.night("W0000P1P3B" + load[0] + "0", 2).bucket(0, 3), load[1]);
        }
        BucketChain chain = Check.night("W0000P0P3P0B90", 3);
        dueBucket("a CHILD hands on what it has", chain, 0, 2, 2, 0);
    }

    private static void comesFromWell() {
        Check.says("Terms", "(c) if none is HELD at STAND 0, and there is somebody, the least BUCKET at THE WELL "
            + "comes there, full (a CHILD: 2 PINTS at most).");
        BucketChain nobody = Check.night("W0000B50B90", 3);
        Check.due("nobody", nobody.about(8), 3);
        Check.due("somebody", Check.night("W0000P0B50B90", 1).about(8), 2);
        dueBucket("full, of 1", Check.night("W0000P0B10", 1), 0, 0, 1, 0);
        dueBucket("full, of 9", Check.night("W0000P0B90", 1), 0, 0, 9, 0);
        // The slow one holds 0 in beat 1, so that nothing comes.
        BucketChain held = Check.night("W0000P2B50B90", 2);
        Check.due("one is HELD at STAND 0", held.about(8), 2);
        BucketChain least = Check.night("W0001P0B90B10B50", 3);
        Check.due("0 is at THE WELL again, 1 is thrown, 2 came", least.about(7) == 1 ? least.stand(0, 1) : MIN, 2);
        least.beat();
        Check.due("the least number, not the least size", least.stand(0, 1), 0);
        BucketChain dry = Check.night("W0005P0B50", 2);
        Check.due("none is at THE WELL", dry.stand(0, 1), NONE);
        BucketChain slow = Check.night("W0009P2B10B20", 1);
        slow.drop(0);
        slow.beat();
        Check.due("one comes to a slow one in an odd BEAT too", slow.stand(0, 1), 1);
    }

    private static void wellForChild() {
        int[][] loads = {{1, 1}, {2, 2}, {3, 2}, {9, 2}};
        for (int[] load : loads) {
            Check.due("to a CHILD, of " + load[0], Check.night("W0000P3B" + load[0] + "0", 1).bucket(0, 3), load[1]);
        }
    }

    private static void leaks() {
        Check.says("Terms", "(d) each BUCKET with a HOLE that is HELD has 1 PINT less (0 at least).");
        int[][] loads = {{1, 0, 0, 0}, {2, 1, 0, 0}, {3, 2, 1, 0}, {9, 8, 7, 6}};
        for (int[] load : loads) {
            BucketChain chain = Check.night("W0000P0P0P0B" + load[0] + "1");
            for (int beat = 1; beat <= 3; beat++) {
                chain.beat();
                Check.due("of " + load[0] + ", beat " + beat, chain.bucket(0, 3), load[beat]);
            }
        }
        BucketChain each = Check.night("W0000P0P0P0P0P0B91B90B91B91", 4);
        int[] left = {5, 9, 7, 8};
        for (int bucket = 0; bucket < 4; bucket++) {
            Check.due("each, " + bucket, each.bucket(bucket, 3), left[bucket]);
        }
        Check.due("what is thrown leaks no more", Check.night("W0000P0B51", 1).beat(), 4);
        Check.due("a HOLE, behind a CHILD's 2", Check.night("W0000P3B91", 1).bucket(0, 3), 1);
        Check.due("none at THE WELL", Check.night("W0000B51", 3).bucket(0, 3), 0);
    }

    private static void runsBack() {
        Check.says("Terms", "(e) each BUCKET on its WAY BACK ahead of this BEAT has 1 BEAT less to go; "
            + "with none to go any more it is at THE WELL; one that was THROWN in this BEAT has THE WAY BACK to go yet "
            + "(at THE WELL, if that is 0).");
        for (int way = 1; way <= 9; way++) {
            BucketChain chain = Check.night("W000" + way + "P0B50", 2);
            for (int toGo = way; toGo >= 1; toGo--) {
                dueBucket("of " + way, chain, 0, BACK, 0, toGo);
                chain.beat();
            }
            dueBucket("none to go, and not filled in that BEAT", chain, 0, WELL, 0, 0);
            chain.beat();
            dueBucket("filled in the next", chain, 0, 0, 5, 0);
        }
        BucketChain near = Check.night("W0000P0B50", 2);
        dueBucket("of 0, and not filled in the same BEAT", near, 0, WELL, 0, 0);
        BucketChain two = Check.night("W0002P0B10B20", 3);
        dueBucket("thrown a BEAT ahead", two, 0, BACK, 0, 1);
        dueBucket("thrown in this BEAT", two, 1, BACK, 0, 2);
    }

    private static void fireGrows() {
        Check.says("Terms", "(f) THE FIRE, if it is not 0, is more by what it GROWS (99 at most).");
        int[][] fires = {{0, 0, 0}, {0, 9, 0}, {1, 0, 1}, {1, 9, 10}, {89, 9, 98}, {90, 9, 99}, {91, 9, 99},
            {98, 1, 99}, {98, 2, 99}, {99, 0, 99}, {99, 1, 99}, {99, 9, 99}};
        for (int[] fire : fires) {
            String text = "W" + fire[0] / 10 + fire[0] % 10 + fire[1] + "0";
            Check.due(text, Check.night(text, 1).about(2), fire[2]);
        }
        // 5 and 4 is 9; 9 pints put it out in beat 1, and it grows no more.
        BucketChain out = Check.night("W0540P0B90", 2);
        Check.due("put out in this BEAT", out.about(2), 0);
        out.beat();
        Check.due("a BEAT later", out.about(2), 0);
        // 6 and 4 is 10; less 9 is 1, and 4 more.
        Check.due("not quite out", Check.night("W0640P0B90", 2).about(2), 5);
        // 99 less 9 is 90, and 9 more: it is less by the pints ahead of growing.
        Check.due("less first, then more", Check.night("W9990P0B90", 2).about(2), 99);
        Check.due("less first, then more", Check.night("W9980P0B90", 2).about(2), 98);
    }

    private static void beatIsOneMore() {
        Check.says("Terms", "THE BEAT is one more.");
        BucketChain chain = Check.night("W5011P0P2B51");
        for (int beat = 1; beat <= 30; beat++) {
            chain.beat();
            Check.due("about(5)", chain.about(5), beat);
        }
        chain.change(0, 1);
        chain.mend(0);
        Check.due("no other ACT is a BEAT", chain.about(5), 30);
    }

    private static void slowOnes() {
        Check.says("Terms", "At work is everybody, SLOW ones in even BEATS alone (0, 2, ..).");
        // It comes in beat 0 and is handed on in beats 2, 4, 6, 8, and thrown in 10.
        BucketChain chain = Check.night("W0009P2P2P2P2P2B90");
        for (int beat = 0; beat <= 9; beat++) {
            Check.due("beat " + beat, chain.beat(), 0);
            Check.due("behind beat " + beat, chain.bucket(0, 2), beat / 2);
        }
        Check.due("beat 10", chain.beat(), 9);
        // Others work in each: in beats 1, 2, 3, 4 it is handed on, and thrown in 5.
        int[][] others = {{0, 9}, {1, 5}, {3, 2}};
        for (int[] kind : others) {
            BucketChain quick = Check.night("W0009" + ("P" + kind[0]).repeat(5) + "B90", 5);
            Check.due("KIND " + kind[0] + ": at the last STAND", quick.bucket(0, 2), 4);
            Check.due("KIND " + kind[0] + ": thrown in beat 5", quick.beat(), kind[1]);
        }
    }

    private static void beat() {
        Check.says("Promise 10", "A BEAT: PINTS that are THROWN in it.");
        Check.due("new", new BucketChain().beat(), 0);
        Check.due("no BUCKET", Check.night("W5000P0").beat(), 0);
        Check.due("nobody", Check.night("W5000B90").beat(), 0);
        Check.due("nothing is HELD by the last yet", Check.night("W5000P0B90").beat(), 0);
        Check.due("the least", Check.night("W5000P0B10", 1).beat(), 1);
        Check.due("the most", Check.night("W5000P0B90", 1).beat(), 9);
        Check.due("more PINTS than THE FIRE is big", Check.night("W0100P0B90", 1).beat(), 9);
        Check.due("on no FIRE", Check.night("W0000P0B90", 1).beat(), 9);
        BucketChain two = Check.night("W9900P0B40B30", 2);
        Check.due("of this BEAT alone", two.beat(), 3);
    }

    private static void changed() {
        Check.says("Terms", "CHANGED: two change STANDS (what is HELD stays at the STAND; PINTS as they are).");
        BucketChain chain = Check.night("W0000P0P3P0B90", 1);
        chain.change(1, 0);
        Check.due("who is at STAND 0", chain.stand(0, 0), 1);
        Check.due("who is at STAND 1", chain.stand(1, 0), 0);
        Check.due("who is at STAND 2", chain.stand(2, 0), 2);
        dueBucket("a CHILD with 9", chain, 0, 0, 9, 0);
        chain.beat();
        dueBucket("a CHILD hands on 9", chain, 0, 1, 9, 0);
        chain.change(1, 0);
        dueBucket("a CHILD at a STAND with 9", chain, 0, 1, 9, 0);
        chain.change(1, 2);
        chain.beat();
        dueBucket("handed to a CHILD", chain, 0, 2, 2, 0);
    }

    private static void change() {
        Check.says("Promise 11", "CHANGED: the STAND of the one then.");
        BucketChain chain = Check.night("W0000P0P0P0P0P0");
        Check.due("change(0, 4)", chain.change(0, 4), 4);
        Check.due("change(4, 0)", chain.change(4, 0), 4);
        Check.due("change(4, 3)", chain.change(4, 3), 3);
        Check.due("change(0, 1): where 1 was", chain.change(0, 1), 1);
        int[] row = {1, 0, 2, 4, 3};
        for (int stand = 0; stand < 5; stand++) {
            Check.due("stand(" + stand + ", 0)", chain.stand(stand, 0), row[stand]);
        }
    }

    private static void changeRefused() {
        Check.says("Promise 11", "UNKNOWN: both; BAD: both are one.");
        for (int people = 0; people <= 5; people++) {
            BucketChain chain = Check.night("W5011" + "P0".repeat(people) + "B50", 2);
            String before = Check.picture(chain);
            for (int out : new int[] {-1, people, 5, MIN, MAX}) {
                Check.due("of " + people + ": change(0, " + out + ")", chain.change(0, out), UNKNOWN);
                Check.due("of " + people + ": change(" + out + ", 0)", chain.change(out, 0), UNKNOWN);
                Check.due("both: UNKNOWN is told first", chain.change(out, out), UNKNOWN);
            }
            for (int person = 0; person < people; person++) {
                Check.due("change(" + person + ", " + person + ")", chain.change(person, person), BAD);
            }
            Check.dueSame("a refused change", Check.picture(chain), before);
        }
    }

    private static void mended() {
        Check.says("Terms", "MENDED: a BUCKET has no HOLE any more.");
        BucketChain held = Check.night("W0002P0P0P0B91", 1);
        held.mend(0);
        Check.due("bucket(0, 1)", held.bucket(0, 1), 0);
        Check.due("PINTS as they are", held.bucket(0, 3), 8);
        held.beat();
        Check.due("it leaks no more", held.bucket(0, 3), 8);
        Check.beats(held, 4);
        held.beat();
        Check.due("nor when it comes again", held.bucket(0, 3), 9);
        BucketChain well = Check.night("W0002P0B91B91");
        well.mend(1);
        Check.due("at THE WELL, and the other one stays as it is", well.about(10), 1);
        BucketChain back = Check.night("W0002P0B91", 2);
        Check.due("on its WAY BACK", back.mend(0), 0);
        dueBucket("on its WAY BACK", back, 0, BACK, 0, 2);
    }

    private static void mend() {
        Check.says("Promise 12", "MENDED: how many have a HOLE yet.");
        BucketChain chain = Check.night("W0000B11B11B11B11");
        int[] row = {3, 0, 2, 1};
        for (int turn = 0; turn < 4; turn++) {
            Check.due("mend(" + row[turn] + ")", chain.mend(row[turn]), 3 - turn);
        }
    }

    private static void mendRefused() {
        Check.says("Promise 12", "UNKNOWN; LATE: it has none.");
        for (int buckets = 0; buckets <= 4; buckets++) {
            BucketChain chain = Check.night("W5011P0P0" + "B51".repeat(buckets), 2);
            for (int bucket = 0; bucket < buckets; bucket++) {
                chain.mend(bucket);
            }
            String before = Check.picture(chain);
            for (int out : new int[] {-1, buckets, 4, MIN, MAX}) {
                Check.due("of " + buckets + ": mend(" + out + ")", chain.mend(out), UNKNOWN);
            }
            for (int bucket = 0; bucket < buckets; bucket++) {
                Check.due("mended already: mend(" + bucket + ")", chain.mend(bucket), LATE);
            }
            Check.dueSame("a refused mend", Check.picture(chain), before);
        }
        Check.due("told without one", Check.night("W0000B90").mend(0), LATE);
    }

    private static void dropped() {
        Check.says("Terms", "DROPPED: a BUCKET that is HELD is on its WAY BACK, with THE WAY BACK to go "
            + "(at THE WELL, if that is 0).");
        for (int way = 1; way <= 9; way++) {
            BucketChain chain = Check.night("W500" + way + "P0P0B90", 1);
            chain.drop(0);
            for (int toGo = way; toGo >= 1; toGo--) {
                dueBucket("of " + way, chain, 0, BACK, 0, toGo);
                chain.beat();
            }
            dueBucket("none to go", chain, 0, WELL, 0, 0);
        }
        BucketChain near = Check.night("W5000P0P0B90", 2);
        near.drop(0);
        dueBucket("of 0", near, 0, WELL, 0, 0);
        near.beat();
        dueBucket("of 0: it comes in the next BEAT", near, 0, 0, 9, 0);
        Check.due("nothing was THROWN", near.about(6), 0);
        Check.due("THE FIRE is as it was", near.about(2), 50);
    }

    private static void drop() {
        Check.says("Promise 13", "DROPPED: PINTS that it had.");
        Check.due("9", Check.night("W0000P0B90", 1).drop(0), 9);
        Check.due("1", Check.night("W0000P0B10", 1).drop(0), 1);
        Check.due("0", Check.night("W0000P0B11", 1).drop(0), 0);
        Check.due("a CHILD's 2", Check.night("W0000P3B90", 1).drop(0), 2);
        Check.due("at the last STAND", Check.night("W0000P0P0P0P0P0B90", 5).drop(0), 9);
        BucketChain four = Check.night("W0005P0P0P0P0B90B80B70B60", 4);
        Check.due("the last BUCKET", four.drop(3), 6);
        Check.due("the others are HELD yet", four.about(7), 14);
    }

    private static void dropRefused() {
        Check.says("Promise 13", "UNKNOWN; LATE: it is not HELD.");
        for (int buckets = 0; buckets <= 4; buckets++) {
            BucketChain chain = Check.night("W5011" + "B51".repeat(buckets), 2);
            String before = Check.picture(chain);
            for (int out : new int[] {-1, buckets, 4, MIN, MAX}) {
                Check.due("of " + buckets + ": drop(" + out + ")", chain.drop(out), UNKNOWN);
            }
            for (int bucket = 0; bucket < buckets; bucket++) {
                Check.due("at THE WELL: drop(" + bucket + ")", chain.drop(bucket), LATE);
            }
            Check.dueSame("a refused drop", Check.picture(chain), before);
        }
        BucketChain back = Check.night("W5013P0B50", 2);
        String before = Check.picture(back);
        Check.due("thrown, on its WAY BACK", back.drop(0), LATE);
        Check.dueSame("a refused drop", Check.picture(back), before);
        BucketChain twice = Check.night("W5013P0B50", 1);
        twice.drop(0);
        Check.due("dropped, on its WAY BACK", twice.drop(0), LATE);
    }

    private static void actsAreARow() {
        Check.says("Terms", "ACTS (BEATS, CHANGED, MENDED, DROPPED) are a row (14 at most; when it is full, "
            + "the first one is forgotten); the last one can be undone.");
        BucketChain each = Check.night("W0003P0P0B91");
        each.beat();
        Check.due("BEATS", each.about(11), 1);
        each.change(0, 1);
        Check.due("CHANGED", each.about(11), 2);
        each.mend(0);
        Check.due("MENDED", each.about(11), 3);
        each.drop(0);
        Check.due("DROPPED", each.about(11), 4);
        for (int acts = 13; acts <= 32; acts++) {
            BucketChain chain = Check.night("W0000", acts);
            int kept = Math.min(14, acts);
            Check.due(acts + " ACTS", chain.about(11), kept);
            for (int left = kept - 1; left >= 0; left--) {
                Check.due("undo() of " + acts, chain.undo(), left);
                Check.due("THE BEAT", chain.about(5), acts - kept + left);
            }
            Check.due("forgotten ones", chain.undo(), LATE);
            Check.due("THE BEAT of the last forgotten one", chain.about(5), acts - kept);
        }
    }

    private static void undo() {
        Check.says("Promise 14", "The last ACT is undone: how many are left.");
        BucketChain chain = Check.night("W5011P0P2P1B91B51", 3);
        String start = Check.scene(chain);
        chain.beat();
        Check.due("a BEAT", chain.undo(), 3);
        Check.dueSame("a BEAT undone", Check.scene(chain), start);
        chain.change(0, 2);
        Check.due("CHANGED", chain.undo(), 3);
        Check.dueSame("CHANGED undone", Check.scene(chain), start);
        chain.mend(0);
        Check.due("MENDED", chain.undo(), 3);
        Check.dueSame("MENDED undone", Check.scene(chain), start);
        Check.due("0 is HELD", chain.drop(0) >= 0 ? 1 : 0, 1);
        Check.due("DROPPED", chain.undo(), 3);
        Check.dueSame("DROPPED undone", Check.scene(chain), start);
        Check.due("what was refused is no ACT", chain.change(0, 0), BAD);
        Check.due("so the last ACT is the one ahead of it", chain.undo(), 2);
        Check.due("THE BEAT", chain.about(5), 2);
        chain.seed(5);
        chain.see(1, 1, 1);
        chain.write('x');
        Check.due("undo()", chain.undo(), 1);
        Check.due("SEEN is no ACT", chain.about(12), 1);
        Check.due("THE SEED is no ACT", chain.seed(0), 5);
        Check.due("THE TEXT is no ACT", chain.about(13), 18);
        chain.beat();
        Check.due("an ACT behind an undone one", chain.about(11), 2);
    }

    private static void undoLate() {
        Check.says("Promise 14", "LATE: there is none.");
        Check.due("new", new BucketChain().undo(), LATE);
        BucketChain chain = Check.night("W5011P0P2P1B91B51");
        String before = Check.picture(chain);
        Check.due("a new NIGHT", chain.undo(), LATE);
        Check.due("once more", chain.undo(), LATE);
        Check.dueSame("a refused undo", Check.picture(chain), before);
        chain.beat();
        Check.due("one", chain.undo(), 0);
        Check.due("no more", chain.undo(), LATE);
        Check.dueSame("a refused undo", Check.picture(chain), before);
    }

    /** "An object is used for at most 512 calls after it has been made": so each of them still holds. */
    private static void allCallsOfAnObject() {
        BucketChain chain = Check.night("W9990P0B90B90");
        int calls = 1 + "W9990P0B90B90".length() + 1;
        for (int beat = 0; calls < 511; beat++) {
            Check.due("beat " + beat, chain.beat(), beat == 0 ? 0 : 9);
            calls++;
        }
        Check.due("the 512th call: THROWN", chain.about(6), 9 * (511 - 15 - 1));
    }
}
