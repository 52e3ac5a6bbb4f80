import java.util.Arrays;

/** The document's edges, sentence by sentence: the text, faults, the night, looking (promises 1 to 9). */
public final class EdgesOfTextTest {
    private static final int UNKNOWN = BucketChain.UNKNOWN, BAD = BucketChain.BAD, LATE = BucketChain.LATE;
    private static final int FULL = BucketChain.FULL, NONE = BucketChain.NONE;
    private static final int MIN = Integer.MIN_VALUE, MAX = Integer.MAX_VALUE;
    private static final String LONGEST = "W9999P0P1P2P3P0B10B91B50B61";

    public static void main(String[] args) {
        newObject();
        atFirst();
        bytes();
        bytesRefused();
        textIsFull();
        wipe();
        firstFigures();
        people();
        buckets();
        parts();
        mostOfEach();
        faultIsFirst();
        faultAtEnd();
        faultOrNone();
        nightMade();
        nightAnew();
        nightLate();
        about();
        aboutLeastAndMost();
        aboutBad();
        person();
        personRefused();
        stand();
        standRefused();
        bucket();
        bucketRefused();
        Check.end();
    }

    private static void newObject() {
        Check.says("Promise 1", "No fire, nobody.");
        BucketChain chain = new BucketChain();
        Check.due("about(2)", chain.about(2), 0);
        Check.due("about(0)", chain.about(0), 0);
        Check.due("person(0, 0)", chain.person(0, 0), UNKNOWN);
        Check.due("stand(0, 0)", chain.stand(0, 0), UNKNOWN);
        Check.due("nothing yet of all", sumOfAbout(chain), 0);
        Check.due("nothing is kept in 0", chain.again(0), LATE);
        Check.due("nothing is kept in 1", chain.again(1), LATE);
        Check.due("no ACT", chain.undo(), LATE);
    }

    private static int sumOfAbout(BucketChain chain) {
        int sum = 0;
        for (int what = 0; what <= 13; what++) {
            sum += Math.abs(chain.about(what));
        }
        return sum;
    }

    private static void atFirst() {
        Check.says("Terms", "At first THE FIRE is 0, nothing GROWS, there is nobody, no BUCKET.");
        BucketChain chain = new BucketChain();
        Check.due("about(3)", chain.about(3), 0);
        Check.due("about(1)", chain.about(1), 0);
        Check.due("bucket(0, 0)", chain.bucket(0, 0), UNKNOWN);
        for (int beat = 1; beat <= 10; beat++) {
            Check.due("beat()", chain.beat(), 0);
            Check.due("THE BEAT", chain.about(5), beat);
            Check.due("THE FIRE", chain.about(2), 0);
            Check.due("BUCKETS anywhere", chain.about(7) | chain.about(8) | chain.about(9), 0);
        }
    }

    private static void bytes() {
        Check.says("Promise 2", "A byte (0 .. 255) comes behind THE TEXT: how long it is.");
        for (int letter = 0; letter <= 255; letter++) {
            BucketChain chain = new BucketChain();
            Check.due("write(" + letter + ")", chain.write(letter), 1);
            Check.due("write(" + letter + ") again", chain.write(letter), 2);
            Check.due("about(13)", chain.about(13), 2);
        }
        BucketChain chain = Check.told("W0");
        chain.write('x');
        Check.due("it is behind what was there", chain.fault(), 2);
    }

    private static void bytesRefused() {
        Check.says("Promise 2", "BAD; FULL: there are 36.");
        BucketChain chain = new BucketChain();
        for (int letter : new int[] {-1, 256, MIN, MAX, 256 + 'W', -256 + 'W'}) {
            Check.due("write(" + letter + ")", chain.write(letter), BAD);
            Check.due("nothing came", chain.about(13), 0);
        }
        for (int length = 1; length <= 36; length++) {
            Check.due("write() to " + length, chain.write('0'), length);
        }
        Check.due("write(0) to 37", chain.write(0), FULL);
        Check.due("write(255) to 37", chain.write(255), FULL);
        Check.due("write(-1) to 37: BAD is told first", chain.write(-1), BAD);
        Check.due("write(256) to 37: BAD is told first", chain.write(256), BAD);
    }

    private static void textIsFull() {
        Check.says("Terms", "THE TEXT is bytes (36 at most).");
        BucketChain chain = Check.told(LONGEST + "012345678");
        Check.due("36 bytes", chain.about(13), 36);
        Check.due("the last byte that is one too many for a NIGHT", chain.fault(), 27);
        Check.due("one more", chain.write('P'), FULL);
        Check.due("36 bytes stay", chain.about(13), 36);
        Check.due("FAULT stays", chain.fault(), 27);
        BucketChain almost = Check.told(LONGEST + "01234567");
        Check.due("35 bytes", almost.about(13), 35);
        Check.due("the last that is in", almost.write('P'), 36);
    }

    private static void wipe() {
        Check.says("Promise 3", "THE TEXT is empty: how long it was.");
        BucketChain chain = new BucketChain();
        Check.due("wipe() of nothing", chain.wipe(), 0);
        chain.write('W');
        Check.due("wipe() of one", chain.wipe(), 1);
        Check.due("about(13)", chain.about(13), 0);
        Check.due("wipe() once more", chain.wipe(), 0);
        Check.tell(chain, LONGEST + "012345678");
        Check.due("wipe() of a full one", chain.wipe(), 36);
        Check.due("there is room again", chain.write('W'), 1);
        Check.due("what was wiped is no part of it", chain.fault(), 1);
        BucketChain night = Check.night("W4212P0P1B90", 2);
        String before = Check.scene(night);
        night.wipe();
        Check.dueSame("wipe() of a NIGHT's TEXT", Check.scene(night), before);
    }

    /** All 256 bytes at the place behind start: those of in can be there, no other one. */
    private static void dueBytes(String start, String in, String end) {
        for (int letter = 0; letter <= 255; letter++) {
            String text = start + (char) letter + end;
            int want = in.indexOf(letter) >= 0 ? NONE : start.length();
            Check.due("fault() of '" + start + "', " + letter + ", '" + end + "'", Check.told(text).fault(), want);
        }
    }

    private static void firstFigures() {
        Check.says("Terms", "A NIGHT is a TEXT: W, two figures (THE FIRE, 00 .. 99), "
            + "a figure g (0 .. 9: by how much it GROWS), a figure r (0 .. 9: THE WAY BACK), ");
        String figures = "0123456789";
        dueBytes("", "W", "0000");
        dueBytes("W", figures, "000");
        dueBytes("W0", figures, "00");
        dueBytes("W00", figures, "0");
        dueBytes("W000", figures, "");
        for (int number = 0; number <= 99; number++) {
            String two = "" + number / 10 + number % 10;
            Check.due("THE FIRE " + two, Check.night("W" + two + "00").about(2), number);
            Check.due("GROWS, in " + two, Check.night("W00" + two).about(3), number / 10);
            Check.due("THE WAY BACK, in " + two, Check.night("W00" + two).about(4), number % 10);
        }
    }

    private static void people() {
        Check.says("Terms", "Pk one of KIND k (0 PLAIN, 1 CLUMSY, 2 SLOW, 3 CHILD), who stands behind those told ahead");
        dueBytes("W0000P", "0123", "");
        BucketChain chain = Check.night("W0000P3P2P1P0P3");
        for (int person = 0; person < 5; person++) {
            Check.due("KIND of " + person, chain.person(person, 0), person < 4 ? 3 - person : 3);
            Check.due("STAND of " + person, chain.person(person, 1), person);
        }
    }

    private static void buckets() {
        Check.says("Terms", "Bsh a BUCKET of s (1 .. 9) PINTS, with a HOLE (h 1), or without one (0)");
        dueBytes("W0000B", "123456789", "0");
        dueBytes("W0000B1", "01", "");
        for (int size = 1; size <= 9; size++) {
            BucketChain chain = Check.night("W0000B" + size + "0B" + size + "1");
            Check.due("size", chain.bucket(0, 0), size);
            Check.due("without a HOLE", chain.bucket(0, 1), 0);
            Check.due("with a HOLE", chain.bucket(1, 1), 1);
        }
    }

    private static void parts() {
        Check.says("Terms", "then PARTS, none or more, numbered as they are told, each kind for itself:");
        Check.due("none", Check.told("W0000").night(), 0);
        Check.due("one P", Check.told("W0000P0").night(), 10);
        Check.due("one B", Check.told("W0000B10").night(), 1);
        for (int letter = 0; letter <= 255; letter++) {
            boolean opens = letter == 'P' || letter == 'B';
            Check.due("a PART that begins with " + letter, Check.told("W0000" + (char) letter).fault(), opens ? 6 : 5);
            Check.due("a next one", Check.told("W0000P0" + (char) letter).fault(), opens ? 8 : 7);
        }
        BucketChain chain = Check.night("W0000B91P3B10P1B41");
        Check.due("person(0, 0)", chain.person(0, 0), 3);
        Check.due("person(1, 0)", chain.person(1, 0), 1);
        Check.due("person(2, 0)", chain.person(2, 0), UNKNOWN);
        Check.due("bucket(0, 0)", chain.bucket(0, 0), 9);
        Check.due("bucket(1, 0)", chain.bucket(1, 0), 1);
        Check.due("bucket(2, 0)", chain.bucket(2, 0), 4);
        Check.due("bucket(3, 0)", chain.bucket(3, 0), UNKNOWN);
    }

    private static void mostOfEach() {
        Check.says("Terms", "(5 at most), BUCKETS 0, 1, .. (4 at most).");
        Check.due("5 PEOPLE", Check.told("W0000P0P0P0P0P0").night(), 50);
        Check.due("6 PEOPLE", Check.told("W0000P0P0P0P0P0P0").night(), LATE);
        Check.due("the sixth's place", Check.told("W0000P0P0P0P0P0P0").fault(), 15);
        Check.due("BUCKETS go on behind 5 PEOPLE", Check.told("W0000P0P0P0P0P0B10").night(), 51);
        Check.due("4 BUCKETS", Check.told("W0000B10B10B10B10").night(), 4);
        Check.due("5 BUCKETS", Check.told("W0000B10B10B10B10B10").night(), LATE);
        Check.due("the fifth's place", Check.told("W0000B10B10B10B10B10").fault(), 17);
        Check.due("PEOPLE go on behind 4 BUCKETS", Check.told("W0000B10B10B10B10P0").night(), 14);
        Check.due("all there can be", Check.told(LONGEST).night(), 54);
        Check.due("and one P more", Check.told(LONGEST + "P0").fault(), 27);
        Check.due("and one B more", Check.told(LONGEST + "B10").fault(), 27);
    }

    private static void faultIsFirst() {
        Check.says("Terms", "FAULT: the place of the first byte by which THE TEXT can be no NIGHT, "
            + "whatever came behind it (its length set aside);");
        Check.due("of two the first", Check.told("W0x0y").fault(), 2);
        Check.due("what is good behind it mends nothing", Check.told("w0000P0B10").fault(), 0);
        Check.due("what is good behind a PART", Check.told("W0000P9B10").fault(), 6);
        Check.due("at the first byte", Check.told("P").fault(), 0);
        Check.due("a letter in place of a figure", Check.told("W0000PP").fault(), 6);
        Check.due("W once more", Check.told("W0000W0000").fault(), 5);
        Check.due("a size that can not be, its hole not told yet", Check.told("W0000B0").fault(), 6);
        Check.due("a fault is no longer one when it is wiped", wipedAndTold(), NONE);
        Check.due("36 bytes with the FAULT at the first", Check.told("x" + LONGEST + "01234567").fault(), 0);
        Check.due("36 bytes with the FAULT at the last there can be",
            Check.told(LONGEST + "PPPPPPPPP").fault(), 27);
    }

    private static int wipedAndTold() {
        BucketChain chain = Check.told("x");
        chain.fault();
        Check.tell(chain, "W0000");
        return chain.fault();
    }

    private static void faultAtEnd() {
        Check.says("Terms", "its length, if it is only not at its end; NONE: none.");
        int[] ends = {5, 7, 9, 11, 13, 15, 18, 21, 24, 27};
        for (int length = 0; length <= LONGEST.length(); length++) {
            boolean whole = Arrays.binarySearch(ends, length) >= 0;
            String text = LONGEST.substring(0, length);
            Check.due("fault() of '" + text + "'", Check.told(text).fault(), whole ? NONE : length);
            Check.due("night() of '" + text + "'", Check.told(text).night() == LATE ? 1 : 0, whole ? 0 : 1);
        }
    }

    private static void faultOrNone() {
        Check.says("Promise 4", "FAULT; NONE.");
        Check.due("of no TEXT", new BucketChain().fault(), 0);
        Check.due("of a NIGHT", Check.told("W0000").fault(), NONE);
        Check.due("of a FAULT", Check.told("W000x").fault(), 4);
        BucketChain chain = Check.night("W4212P0P1B90", 2);
        Check.tell(chain, "W99P");
        String before = Check.picture(chain);
        Check.due("asked", chain.fault(), 3);
        Check.due("asked once more", chain.fault(), 3);
        Check.dueSame("fault()", Check.picture(chain), before);
    }

    private static void nightMade() {
        Check.says("Promise 5", "THE TEXT is THE NIGHT (no ACTS; what was kept is gone; SEEN, THE SEED stay): "
            + "10 times PEOPLE, and BUCKETS.");
        for (int people = 0; people <= 5; people++) {
            for (int buckets = 0; buckets <= 4; buckets++) {
                BucketChain chain = Check.told("W0000" + "P0".repeat(people) + "B10".repeat(buckets));
                Check.due("night()", chain.night(), 10 * people + buckets);
                Check.due("about(0)", chain.about(0), people);
                Check.due("about(1)", chain.about(1), buckets);
            }
        }
        BucketChain chain = Check.night("W4212P0P1B91", 20);
        chain.keep(0);
        chain.keep(1);
        chain.see(1, 2, 1);
        chain.seed(-7);
        Check.due("night() of the same TEXT", chain.night(), 21);
        Check.due("ACTS", chain.about(11), 0);
        Check.due("undo()", chain.undo(), LATE);
        Check.due("kept in 0", chain.again(0), LATE);
        Check.due("kept in 1", chain.again(1), LATE);
        Check.due("SEEN", chain.about(12), 1);
        Check.due("fires(0) by what is SEEN: 1 and 1, and all of 2 .. 9", chain.fires(0), 89);
        Check.due("THE SEED", chain.seed(0), -7);
        Check.due("THE TEXT", chain.about(13), 12);
    }

    private static void nightAnew() {
        Check.says("Terms", "When THE NIGHT is made anew, all are at STANDS as told (STAND 0 by THE WELL), "
            + "all BUCKETS at THE WELL, nothing was THROWN, THE BEAT is 0.");
        BucketChain chain = Check.night("W4219P0P1P2B91B50B81", 9);
        chain.change(0, 2);
        chain.mend(0);
        chain.drop(2);
        chain.night();
        Check.dueSame("night() against the first one", Check.picture(chain), Check.picture(Check.night(
            "W4219P0P1P2B91B50B81")));
        BucketChain held = Check.night("W4219P0P0P0P0B90B80B70B60", 4);
        held.night();
        for (int bucket = 0; bucket < 4; bucket++) {
            dueBucket(held, bucket, 9 - bucket, 0, 8, 0, 0);
        }
        for (int person = 0; person < 3; person++) {
            Check.due("person(" + person + ", 1)", chain.person(person, 1), person);
        }
        Check.due("at THE WELL", chain.about(8), 7);
        Check.due("THROWN", chain.about(6), 0);
        Check.due("THE BEAT", chain.about(5), 0);
        Check.due("HOLES as told", chain.about(10), 5);
        chain.beat();
        Check.due("STAND 0 is by THE WELL", chain.stand(0, 1), 0);
        Check.tell(chain, "W0700P3");
        Check.due("a lesser NIGHT", chain.night(), 10);
        Check.due("no BUCKET is left of the one ahead", chain.about(7) | chain.about(8) | chain.about(9), 0);
        Check.due("no HOLE is left of the one ahead", chain.about(10), 0);
        Check.due("no one is left of the one ahead", chain.person(1, 0), UNKNOWN);
        Check.due("GROWS as told", chain.about(3), 0);
        Check.due("THE WAY BACK as told", chain.about(4), 0);
    }

    private static void nightLate() {
        Check.says("Promise 5", "LATE: a FAULT.");
        Check.due("of no TEXT", new BucketChain().night(), LATE);
        Check.due("not at its end", Check.told("W000").night(), LATE);
        Check.due("one too many", Check.told(LONGEST + "P").night(), LATE);
        Check.due("of a full TEXT", Check.told(LONGEST + "012345678").night(), LATE);
        BucketChain chain = Check.night("W4219P0P1P2B91B50B81", 9);
        chain.keep(1);
        Check.tell(chain, "W1122P3B10x");
        String before = Check.picture(chain);
        Check.due("night()", chain.night(), LATE);
        Check.dueSame("night()", Check.picture(chain), before);
        Check.due("the last ACT is still there", chain.undo(), 8);
        Check.due("what was kept is still there", chain.again(1), 9);
    }

    private static void dueAbout(BucketChain chain, int... want) {
        for (int what = 0; what < want.length; what++) {
            Check.due("about(" + what + ")", chain.about(what), want[what]);
        }
    }

    private static void about() {
        Check.says("Promise 6", "PEOPLE (what = 0), BUCKETS (1), THE FIRE (2), by how much it GROWS (3), "
            + "THE WAY BACK (4), THE BEAT (5), PINTS that were THROWN (6), STANDS at which a BUCKET is HELD (7: bits), "
            + "BUCKETS at THE WELL (8: bits), on their WAY BACK (9: bits), with a HOLE (10: bits), ACTS (11), SEEN (12), "
            + "bytes of THE TEXT (13).");
        // BUCKET 0 (3 pints) is thrown in beat 2: 50 and 2 less 3 is 49, and 1 more; 1 is at stand 1, 2 at stand 0.
        BucketChain chain = Check.night("W5015P0P0B30B41B50B61", 3);
        chain.see(0, 0, 0);
        chain.see(0, 0, 0);
        chain.write('P');
        dueAbout(chain, 2, 4, 50, 1, 5, 3, 3, 3, 8, 1, 10, 3, 2, 22);
    }

    private static void aboutLeastAndMost() {
        dueAbout(new BucketChain(), 0, 0, 0, 0, 0, 0, 0, 0, 0, 0, 0, 0, 0, 0);
        // Four pails for five stands: 0 .. 3 are full after four beats, 1 .. 4 after five.
        BucketChain chain = Check.night("W9999P0P0P0P0P0B91B91B91B91");
        dueAbout(chain, 5, 4, 99, 9, 9, 0, 0, 0, 15, 0, 15, 0, 0, 27);
        Check.beats(chain, 4);
        dueAbout(chain, 5, 4, 99, 9, 9, 4, 0, 15, 0, 0, 15, 4, 0, 27);
        chain.beat();
        dueAbout(chain, 5, 4, 99, 9, 9, 5, 0, 30, 0, 0, 15, 5, 0, 27);
        // A pail of 9 loses 5 in its five stands and is thrown with 4.
        Check.beats(chain, 4);
        dueAbout(chain, 5, 4, 99, 9, 9, 9, 16, 0, 0, 15, 15, 9, 0, 27);
        Check.beats(chain, 11);
        for (int seen = 0; seen < 7; seen++) {
            chain.see(0, 0, 1);
        }
        for (int more = 0; more < 10; more++) {
            chain.write('0');
        }
        Check.due("ACTS, full", chain.about(11), 14);
        Check.due("SEEN, full", chain.about(12), 6);
        Check.due("bytes, full", chain.about(13), 36);
    }

    private static void aboutBad() {
        Check.says("Promise 6", "BAD.");
        for (BucketChain chain : new BucketChain[] {new BucketChain(), Check.night(LONGEST, 7)}) {
            for (int what : new int[] {-1, 14, -9, 15, MIN, MAX}) {
                Check.due("about(" + what + ")", chain.about(what), BAD);
            }
            Check.due("about(0) is in", chain.about(0) >= 0 ? 1 : 0, 1);
            Check.due("about(13) is in", chain.about(13) >= 0 ? 1 : 0, 1);
        }
    }

    private static void person() {
        Check.says("Promise 7", "Of one the KIND (what = 0), STAND (1).");
        BucketChain chain = Check.night("W0000P0P1P2P3P1");
        chain.change(0, 4);
        int[] kinds = {0, 1, 2, 3, 1};
        int[] stands = {4, 1, 2, 3, 0};
        for (int person = 0; person < 5; person++) {
            Check.due("person(" + person + ", 0)", chain.person(person, 0), kinds[person]);
            Check.due("person(" + person + ", 1)", chain.person(person, 1), stands[person]);
        }
    }

    private static void personRefused() {
        Check.says("Promise 7", "UNKNOWN; BAD.");
        for (int people = 0; people <= 5; people++) {
            BucketChain chain = Check.night("W0000" + "P0".repeat(people));
            for (int out : new int[] {-1, people, 5, MIN, MAX}) {
                Check.due("of " + people + ": person(" + out + ", 0)", chain.person(out, 0), UNKNOWN);
                Check.due("of " + people + ": person(" + out + ", 1)", chain.person(out, 1), UNKNOWN);
                Check.due("both: UNKNOWN is told first", chain.person(out, 2), UNKNOWN);
            }
            for (int what : new int[] {-1, 2, MIN, MAX}) {
                int want = people == 0 ? UNKNOWN : BAD;
                Check.due("of " + people + ": person(0, " + what + ")", chain.person(0, what), want);
                Check.due("of " + people + ": the last's " + what, chain.person(people - 1, what), want);
            }
        }
    }

    private static void stand() {
        Check.says("Promise 8", "Of a STAND who is there (what = 0), which BUCKET is HELD there (1; NONE).");
        BucketChain chain = Check.night("W0000P0P0P0P0P0B10B10", 5);
        chain.change(0, 4);
        int[] who = {4, 1, 2, 3, 0};
        int[] held = {NONE, NONE, NONE, 1, 0};
        for (int stand = 0; stand < 5; stand++) {
            Check.due("stand(" + stand + ", 0)", chain.stand(stand, 0), who[stand]);
            Check.due("stand(" + stand + ", 1)", chain.stand(stand, 1), held[stand]);
        }
        Check.due("no BUCKET at all", Check.night("W0000P0", 3).stand(0, 1), NONE);
    }

    private static void standRefused() {
        Check.says("Promise 8", "UNKNOWN; BAD.");
        for (int people = 0; people <= 5; people++) {
            BucketChain chain = Check.night("W0000" + "P0".repeat(people) + "B10B10", 2);
            for (int out : new int[] {-1, people, 5, 8, 9, MIN, MAX}) {
                Check.due("of " + people + ": stand(" + out + ", 0)", chain.stand(out, 0), UNKNOWN);
                Check.due("of " + people + ": stand(" + out + ", 1)", chain.stand(out, 1), UNKNOWN);
                Check.due("both: UNKNOWN is told first", chain.stand(out, -1), UNKNOWN);
            }
            for (int what : new int[] {-1, 2, MIN, MAX}) {
                int want = people == 0 ? UNKNOWN : BAD;
                Check.due("of " + people + ": stand(0, " + what + ")", chain.stand(0, what), want);
                Check.due("of " + people + ": the last's " + what, chain.stand(people - 1, what), want);
            }
        }
    }

    private static void dueBucket(BucketChain chain, int bucket, int... want) {
        for (int what = 0; what < want.length; what++) {
            Check.due("bucket(" + bucket + ", " + what + ")", chain.bucket(bucket, what), want[what]);
        }
    }

    private static void bucket() {
        Check.says("Promise 9", "Of a BUCKET its size (what = 0), 1 if it has a HOLE (1), "
            + "the STAND at which it is HELD (2; 8 THE WELL, 9 on its WAY BACK), PINTS (3; 0: it is not HELD), "
            + "BEATS that it has to go (4; 0: it is not on its WAY BACK).");
        BucketChain chain = Check.night("W0009P0P0P0P0P0B90B11B11B11");
        dueBucket(chain, 0, 9, 0, 8, 0, 0);
        dueBucket(chain, 3, 1, 1, 8, 0, 0);
        Check.beats(chain, 5);
        dueBucket(chain, 0, 9, 0, 4, 9, 0);
        dueBucket(chain, 1, 1, 1, 3, 0, 0);
        dueBucket(chain, 3, 1, 1, 1, 0, 0);
        for (int toGo = 9; toGo >= 1; toGo--) {
            chain.beat();
            dueBucket(chain, 0, 9, 0, 9, 0, toGo);
        }
        chain.beat();
        dueBucket(chain, 0, 9, 0, 8, 0, 0);
        chain.beat();
        dueBucket(chain, 0, 9, 0, 0, 9, 0);
        chain.drop(0);
        dueBucket(chain, 0, 9, 0, 9, 0, 9);
    }

    private static void bucketRefused() {
        Check.says("Promise 9", "UNKNOWN; BAD.");
        for (int buckets = 0; buckets <= 4; buckets++) {
            BucketChain chain = Check.night("W0002P0P0" + "B91".repeat(buckets), 2);
            for (int out : new int[] {-1, buckets, 4, MIN, MAX}) {
                for (int what = 0; what <= 4; what++) {
                    Check.due("of " + buckets + ": bucket(" + out + ", " + what + ")", chain.bucket(out, what), UNKNOWN);
                }
                Check.due("both: UNKNOWN is told first", chain.bucket(out, 5), UNKNOWN);
            }
            for (int what : new int[] {-1, 5, MIN, MAX}) {
                int want = buckets == 0 ? UNKNOWN : BAD;
                Check.due("of " + buckets + ": bucket(0, " + what + ")", chain.bucket(0, what), want);
                Check.due("of " + buckets + ": the last's " + what, chain.bucket(buckets - 1, what), want);
            }
        }
    }
}
