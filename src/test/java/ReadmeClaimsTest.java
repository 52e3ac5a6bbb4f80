import java.io.IOException;
import java.nio.file.Files;
import java.nio.file.Path;

/** What README.md says in words (bounds, kinds, what stays and what goes) is tried here; examples are ReadmeTest's. */
public final class ReadmeClaimsTest {
    private static final int UNKNOWN = BucketChain.UNKNOWN, BAD = BucketChain.BAD, LATE = BucketChain.LATE;
    private static final int FULL = BucketChain.FULL, NONE = BucketChain.NONE;
    private static final String NIGHT = "W3012P0P1B60B31";

    private final String page;
    private String claim = "";

    private ReadmeClaimsTest(String page) {
        this.page = page.replaceAll("\\s+", " ");
    }

    public static void main(String[] args) throws IOException {
        ReadmeClaimsTest test = new ReadmeClaimsTest(Files.readString(Path.of("README.md")));
        test.texts();
        test.parts();
        test.kinds();
        test.stands();
        test.acts();
        test.beatsToCome();
        test.doings();
        test.seen();
        test.chances();
        test.slots();
        test.nothingIsChanged();
        test.objects();
        Check.end();
    }

    /** The answers that follow are those by which these words of README.md hold. */
    private void says(String words) {
        claim = "README.md, \"" + words + "\": ";
        Check.due(claim + "stands there", page.contains(words) ? 1 : 0, 1);
    }

    private void due(String call, long got, long want) {
        Check.due(claim + call, got, want);
    }

    private void dueAnswer(String call, long got) {
        due(call + " answered " + got + "; 0 or more", got >= 0 ? 1 : 0, 1);
    }

    // ---- the night

    private void texts() {
        says("a byte (0 .. 255) comes behind the text (36 at most): how long it is");
        BucketChain chain = new BucketChain();
        due("write(-1)", chain.write(-1), BAD);
        due("write(256)", chain.write(256), BAD);
        for (int length = 1; length <= 36; length++) {
            due("write", chain.write(length % 2 == 0 ? 0 : 255), length);
        }
        due("write behind 36", chain.write(0), FULL);
        says("its length, if only its end is missing");
        due("fault() of W30", Check.told("W30").fault(), 3);
        due("fault() of W3012B6", Check.told("W3012B6").fault(), 7);
        says("the text becomes the night, all at its beginning, no acts, nothing kept: 10 times people, and buckets");
        BucketChain anew = Check.night(NIGHT, 3);
        anew.change(0, 1);
        anew.keep(1);
        due("night()", anew.night(), 22);
        due("beats", anew.about(5), 0);
        due("acts", anew.about(11), 0);
        due("the stand of 0", anew.person(0, 1), 0);
        due("at the well", anew.about(8), 3);
        due("again(1)", anew.again(1), LATE);
    }

    private void parts() {
        says("`W`, two figures for the fire, a figure by how much it grows in a beat, a figure for the way back");
        BucketChain told = Check.night("W4567");
        due("the fire", told.about(2), 45);
        due("it grows by", told.about(3), 6);
        due("the way back", told.about(4), 7);
        says("people and buckets in any order, each kind numbered from 0 as it is told");
        BucketChain mixed = Check.night("W0000B10P3B21P2");
        due("kind of 0", mixed.person(0, 0), 3);
        due("kind of 1", mixed.person(1, 0), 2);
        due("size of 0", mixed.bucket(0, 0), 1);
        due("size of 1", mixed.bucket(1, 0), 2);
        says("5 people and 4 buckets at most.");
        due("five and four", Check.told("W0000P0P0P0P0P0B10B10B10B10").night(), 54);
        due("six", Check.told("W0000P0P0P0P0P0P0").night(), LATE);
        due("five buckets", Check.told("W0000B10B10B10B10B10").night(), LATE);
        says("a bucket of 6 pints (1 .. 9), without a hole, with one (a pint less in each beat that it is held)");
        due("B00", Check.told("W0000B00").fault(), 6);
        due("B10", Check.told("W0000B10").fault(), NONE);
        due("B91", Check.told("W0000B91").fault(), NONE);
        due("B92", Check.told("W0000B92").fault(), 7);
        due("pints of a whole one", Check.night("W0000P0P0P0B60", 3).bucket(0, 3), 6);
        due("pints of one with a hole", Check.night("W0000P0P0P0B61", 3).bucket(0, 3), 3);
    }

    private void kinds() {
        says("plain, clumsy (spills a pint when handing on), slow (works in even beats alone), "
            + "a child (takes 2 pints at most)");
        due("P4", Check.told("W0000P4").fault(), 6);
        int[] pints = {6, 5, 0, 2};
        for (int kind = 0; kind < 4; kind++) {
            BucketChain chain = Check.night("W0000P" + kind + "P0B60", 2);
            due("kind", chain.person(0, 0), kind);
            // Beat 1 is odd, so a slow one has handed on nothing yet.
            due("where it is behind two beats, kind " + kind, chain.bucket(0, 2), kind == 2 ? 0 : 1);
            due("pints at stand 1, kind " + kind, chain.bucket(0, 2) == 1 ? chain.bucket(0, 3) : 0, pints[kind]);
        }
        due("a slow one in beat 2", Check.night("W0000P2P0B60", 3).bucket(0, 2), 1);
    }

    private void stands() {
        says("There are as many stands as people: stand 0 is at the well, who is at the last one throws.");
        for (int people = 1; people <= 5; people++) {
            BucketChain chain = Check.night("W5000" + "P0".repeat(people) + "B60", 1);
            dueAnswer("the last stand", chain.stand(people - 1, 0));
            due("one stand more", chain.stand(people, 0), UNKNOWN);
            due("the bucket comes to", chain.bucket(0, 2), 0);
            Check.beats(chain, people - 1);
            due("it is ahead of its throw at", chain.bucket(0, 2), people - 1);
            due("and thrown then", chain.beat(), 6);
        }
    }

    // ---- acts

    private void acts() {
        says("two change stands (buckets stay where they are): the stand of the one then");
        BucketChain chain = Check.night(NIGHT, 2);
        due("change(0, 1)", chain.change(0, 1), 1);
        due("bucket 0", chain.bucket(0, 2), 1);
        due("bucket 1", chain.bucket(1, 2), 0);
        says("it has no hole any more: how many have one yet");
        due("mend(0) of three", Check.night("W0000B11B11B11").mend(0), 2);
        says("it is held no more and on its way back: pints that it had");
        due("drop(0)", chain.drop(0), 6);
        due("on their way back", chain.about(9), 1);
        says("the last act is undone (the last 14 can be): how many are left");
        BucketChain longer = Check.night(NIGHT, 15);
        for (int left = 13; left >= 0; left--) {
            due("undo()", longer.undo(), left);
        }
        due("undo() of the fifteenth", longer.undo(), LATE);
        due("beats", longer.about(5), 1);
    }

    // ---- beats to come

    private void beatsToCome() {
        BucketChain chain = Check.night(NIGHT, 3);
        says("in n beats (0 .. 40): 0 the fire, 1 pints thrown in all");
        due("later(-1, 0)", chain.later(-1, 0), BAD);
        due("later(0, 0)", chain.later(0, 0), 27);
        due("later(0, 1)", chain.later(0, 1), 6);
        dueAnswer("later(40, 0)", chain.later(40, 0));
        due("later(41, 0)", chain.later(41, 0), BAD);
        says("in how many beats (0 .. 60) the fire is 0 first");
        due("out() without a fire", new BucketChain().out(), 0);
        due("out() in 60", Check.night("W3000P0B10").out(), 60);
        due("out() in 62", Check.night("W3100P0B10").out(), NONE);
        says("the change of two by which most is thrown in all behind n beats (1 .. 20)");
        due("swap(0, 0)", chain.swap(0, 0), BAD);
        due("swap(1, 0)", chain.swap(1, 0), 7);
        dueAnswer("swap(20, 0)", chain.swap(20, 0));
        due("swap(21, 0)", chain.swap(21, 0), BAD);
        says("(10 times the lesser number and the other one; 99: no change is better)");
        due("swap(7, 1) of three", Check.night("W5000P1P0P0B60").swap(8, 1), 2);
        due("swap(20, 1) of plain ones", Check.night("W5000P0P0P0B60").swap(20, 1), 99);
        says("the order of all by which most is thrown in all behind n beats (1 .. 20)");
        due("line(0, 0)", chain.line(0, 0), BAD);
        due("line(1, 0)", chain.line(1, 0), 7);
        dueAnswer("line(20, 0)", chain.line(20, 0));
        due("line(21, 0)", chain.line(21, 0), BAD);
        says("(stand by stand a figure, 1 more than the number; 0: nobody)");
        due("line(8, 1) of three", Check.night("W5000P1P0P0B60").line(8, 1), 231);
        due("line(8, 1) of nobody", Check.night("W5000B60").line(8, 1), 0);
        says("a fraction: pints that it adds in 12 beats, in the mean over all orders in which buckets could come");
        BucketChain alone = Check.night("W9900P0B60");
        Check.dueFraction(claim + "share of the only one", alone.share(0, true), alone.share(0, false), 36, 1);
    }

    private void doings() {
        BucketChain chain = Check.night(NIGHT, 2);
        says("n doings (1 .. 4), three figures each, the first one foremost: the place (from 0) of the first");
        due("judge(0, 0)", chain.judge(0, 0L), BAD);
        due("judge(1, 999)", chain.judge(1, 999L), 0);
        due("judge(4, 000000000700)", chain.judge(4, 700L), 3);
        due("judge(4, 700000000000)", chain.judge(4, 700000000000L), 0);
        due("judge(5, 0)", chain.judge(5, 0L), BAD);
        says("`000` a beat; `1ab` a and b change stands; `20b` bucket b is mended; `30b` bucket b is dropped; "
            + "`4sb` bucket b is held at stand s; `5bv` bucket b is held and has v pints or more; "
            + "`6fg` the fire is 10 f + g or less.");
        due("000", chain.judge(1, 0L), NONE);
        due("101", chain.judge(1, 101L), NONE);
        due("100", chain.judge(1, 100L), 0);
        due("102", chain.judge(1, 102L), 0);
        due("201", chain.judge(1, 201L), NONE);
        due("200", chain.judge(1, 200L), 0);
        due("300", chain.judge(1, 300L), NONE);
        due("300 300", chain.judge(2, 300300L), 1);
        due("410", chain.judge(1, 410L), NONE);
        due("400", chain.judge(1, 400L), 0);
        due("506", chain.judge(1, 506L), NONE);
        due("507", chain.judge(1, 507L), 0);
        due("632", chain.judge(1, 632L), NONE);
        due("631", chain.judge(1, 631L), 0);
        says("Figures of another form can not be.");
        for (long figures : new long[] {1, 10, 211, 310, 700, 800, 900}) {
            due("judge(1, " + figures + ")", chain.judge(1, figures), 0);
        }
    }

    // ---- seen, rests, chances, slots

    private void seen() {
        says("it was seen that an unknown fire was v (0 .. 99) or more (1), or less (0), behind t (0 .. 9) beats: "
            + "how much is seen (6 at most)");
        BucketChain chain = new BucketChain();
        int[][] wrong = {{-1, 0, 0}, {10, 0, 0}, {0, -1, 0}, {0, 100, 0}, {0, 0, -1}, {0, 0, 2}};
        for (int[] row : wrong) {
            due("see" + row[0] + " " + row[1] + " " + row[2], chain.see(row[0], row[1], row[2]), BAD);
        }
        for (int count = 1; count <= 6; count++) {
            due("see", chain.see(9, 99, 0), count);
        }
        due("see a seventh", chain.see(0, 0, 1), FULL);
        says("beginnings (0 .. 9) and growths (0 .. 9) by which all that is seen is so: 0 how many of 100");
        due("fires(0)", chain.fires(0), 100);
        due("unsee()", chain.unsee(), 6);
        chain.see(9, 90, 1);
        due("fires(1), of which 9 that grows by 9 alone is left", chain.fires(1), 99);
        due("fires(0)", chain.fires(0), 1);
    }

    private void chances() {
        BucketChain chain = Check.night(NIGHT, 2);
        says("each of two works (1) or rests (0) for 8 beats and has the pints thrown in them, less 6 if it works");
        // Bucket 0 is held at the last stand: to throw it is worth 6, which it costs, or 7, which is more.
        BucketChain six = Check.night("W9900P0P0B60B50B40", 2);
        due("rests(0, 1, 1) with 6 pints", six.rests(0, 1, 1), 0);
        due("rests(0, 1, 0) with 6 pints", six.rests(0, 1, 0), 2);
        BucketChain seven = Check.night("W9900P0P0B70B50B40", 2);
        due("rests(0, 1, 1) with 7 pints", seven.rests(0, 1, 1), 11);
        due("rests(0, 1, 0) with 7 pints", seven.rests(0, 1, 0), 1);
        says("if each bucket that is held is dropped by x tenths (0 .. 10)");
        due("falls(0, -1, true)", chain.falls(0, -1, true), BAD);
        due("falls(0, 0, true)", chain.falls(0, 0, true), 1);
        due("falls(99, 10, true)", chain.falls(99, 10, true), 0);
        due("falls(0, 11, true)", chain.falls(0, 11, true), BAD);
        says("how likely v pints (0 .. 99) or more are thrown in 10 beats");
        due("falls(-1, 0, true)", chain.falls(-1, 0, true), BAD);
        due("falls(100, 0, true)", chain.falls(100, 0, true), BAD);
        says("the seed (0 at first) is v: what it was");
        due("seed(-5)", chain.seed(-5L), 0);
        due("seed(0)", chain.seed(0L), -5);
        says("m doings (1 .. 30) by chance, told by the seed, which goes on: the fire behind each, together");
        due("nights(0)", chain.nights(0), BAD);
        dueAnswer("nights(1)", chain.nights(1));
        dueAnswer("nights(30)", chain.nights(30));
        due("nights(31)", chain.nights(31), BAD);
        due("the seed went on", chain.seed(0L) == 0 ? 1 : 0, 0);
    }

    private void slots() {
        says("all is kept in slot 0 or 1: beats so far");
        BucketChain chain = Check.night(NIGHT, 2);
        due("keep(-1)", chain.keep(-1), UNKNOWN);
        due("keep(0)", chain.keep(0), 2);
        due("keep(2)", chain.keep(2), UNKNOWN);
        due("again(1)", chain.again(1), LATE);
        chain.beat();
        due("keep(1)", chain.keep(1), 3);
        says("all is as it was kept, no acts: beats so far");
        due("again(0)", chain.again(0), 2);
        due("acts", chain.about(11), 0);
        due("again(1)", chain.again(1), 3);
    }

    private void nothingIsChanged() {
        says("**beats to come** (nothing is changed)");
        BucketChain chain = Check.night(NIGHT, 3);
        String before = Check.picture(chain);
        chain.later(40, 0);
        chain.out();
        chain.swap(20, 0);
        chain.line(20, 0);
        chain.judge(4, 101201300000L);
        chain.share(0, true);
        Check.dueSame(claim, Check.picture(chain), before);
        says("**rests, chances** (nothing is changed but the seed)");
        chain.rests(0, 1, 0);
        chain.falls(5, 5, true);
        chain.nights(30);
        chain.seed(0L);
        Check.dueSame(claim, Check.picture(chain), before);
        says("What is refused changes nothing.");
        chain.change(0, 0);
        chain.mend(0);
        chain.drop(0);
        chain.write(256);
        chain.see(0, 100, 0);
        chain.again(0);
        Check.dueSame(claim, Check.picture(chain), before);
    }

    private void objects() {
        says("Objects share nothing.");
        BucketChain one = Check.night(NIGHT, 2);
        String before = Check.picture(one);
        BucketChain other = Check.night("W9900P3P3B91", 4);
        other.see(1, 1, 1);
        other.seed(9L);
        other.keep(0);
        Check.dueSame(claim, Check.picture(one), before);
        due("again(0) of the first", one.again(0), LATE);
        says("An object is for 512 calls at most, each `write` being one");
        // A wipe, twelve bytes and the night are the first 14 calls.
        BucketChain old = Check.night("W9911P0P0B60");
        Check.beats(old, 497);
        due("the 512th call tells 497 beats", old.about(5), 497);
    }
}
