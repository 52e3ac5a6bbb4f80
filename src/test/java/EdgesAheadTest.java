/** The document's edges, sentence by sentence: beats to come (promises 15 to 20). */
public final class EdgesAheadTest {
    private static final int UNKNOWN = BucketChain.UNKNOWN, BAD = BucketChain.BAD, NONE = BucketChain.NONE;
    private static final int MIN = Integer.MIN_VALUE, MAX = Integer.MAX_VALUE;

    public static void main(String[] args) {
        nothingIsChanged();
        inBeats();
        later();
        laterBad();
        outInBeats();
        out();
        swapForBeats();
        swapOfLikeOnes();
        swap();
        swapBad();
        lineForBeats();
        lineOfAllOrders();
        lineOfLikeOnes();
        line();
        lineBad();
        judgedNumbers();
        judgedBeats();
        judgedChanges();
        judgedBuckets();
        judgedHeld();
        judgedFire();
        judgedForms();
        judgedPlaces();
        judge();
        judgeBad();
        shareFromNowOn();
        share();
        shareUnknown();
        fractions();
        Check.end();
    }

    /** BUCKETS are held, at the well, under way and with holes; acts are full. */
    private static BucketChain busy() {
        BucketChain chain = Check.night("W4212P0P1P2P3B90B71B50B31", 16);
        chain.keep(1);
        chain.see(3, 9, 1);
        chain.seed(12345);
        return chain;
    }

    private static void nothingIsChanged() {
        Check.says("Terms", "In what follows nothing is changed.");
        BucketChain chain = busy();
        String before = Check.picture(chain);
        for (int n = 1; n <= 20; n += 19) {
            for (int what = 0; what <= 1; what++) {
                chain.later(2 * n, what);
                chain.swap(n, what);
                chain.line(n, what);
                chain.rests(0, 3, what);
                chain.fires(what);
            }
        }
        chain.out();
        chain.judge(4, 0L);
        chain.judge(4, 103201000300L);
        chain.judge(3, 101203999L);
        for (int bucket = 0; bucket < 4; bucket++) {
            chain.share(bucket, true);
            chain.falls(9, 5, bucket > 1);
        }
        Check.dueSame("asking", Check.picture(chain), before);
        BucketChain twin = busy();
        for (int left = 13; left >= 0; left--) {
            Check.due("undo()", chain.undo(), twin.undo());
            Check.due("THROWN as it was", chain.about(6), twin.about(6));
        }
        Check.due("again(1)", chain.again(1), 16);
        Check.due("again(0)", chain.again(0), BucketChain.LATE);
    }

    private static void inBeats() {
        Check.says("Terms", "IN n BEATS (0 .. 40): THE FIRE; how many PINTS were THROWN in all.");
        BucketChain chain = busy();
        BucketChain goesOn = busy();
        for (int n = 0; n <= 40; n++) {
            Check.due("later(" + n + ", 0)", chain.later(n, 0), goesOn.about(2));
            Check.due("later(" + n + ", 1)", chain.later(n, 1), goesOn.about(6));
            goesOn.beat();
        }
        BucketChain past = Check.night("W5000P0B70", 2);
        Check.due("in all: the past too", past.later(0, 1), 7);
        Check.due("in all: the past too", past.later(2, 1), 14);
    }

    private static void later() {
        Check.says("Promise 15", "IN n BEATS: THE FIRE (what = 0), THROWN (1).");
        BucketChain chain = Check.night("W9900P0B10");
        Check.due("later(0, 0)", chain.later(0, 0), 99);
        Check.due("later(0, 1)", chain.later(0, 1), 0);
        Check.due("later(1, 1)", chain.later(1, 1), 0);
        Check.due("later(2, 1)", chain.later(2, 1), 1);
        Check.due("later(40, 0)", chain.later(40, 0), 79);
        Check.due("later(40, 1)", chain.later(40, 1), 20);
        Check.due("new: later(40, 0)", new BucketChain().later(40, 0), 0);
        Check.due("new: later(40, 1)", new BucketChain().later(40, 1), 0);
        Check.due("nobody: 99 at most", Check.night("W0190").later(40, 0), 99);
    }

    private static void laterBad() {
        Check.says("Promise 15", "BAD: n, what.");
        for (BucketChain chain : new BucketChain[] {new BucketChain(), busy()}) {
            for (int n : new int[] {-1, 41, MIN, MAX}) {
                Check.due("later(" + n + ", 0)", chain.later(n, 0), BAD);
                Check.due("later(" + n + ", 1)", chain.later(n, 1), BAD);
                Check.due("later(" + n + ", 2)", chain.later(n, 2), BAD);
            }
            for (int what : new int[] {-1, 2, MIN, MAX}) {
                Check.due("later(0, " + what + ")", chain.later(0, what), BAD);
                Check.due("later(40, " + what + ")", chain.later(40, what), BAD);
            }
        }
    }

    private static void outInBeats() {
        Check.says("Terms", "OUT: in how many BEATS (0 .. 60) THE FIRE is 0 first; NONE.");
        Check.due("0 now", Check.night("W0090P0B90").out(), 0);
        Check.due("out in one", Check.night("W0900P0B90", 1).out(), 1);
        // One throws a pint in beats 1, 3, ..: the 30th is thrown in the 60th beat.
        Check.due("in 60", Check.night("W3000P0B10").out(), 60);
        // A slow one alone throws a pint in beats 2, 4, ..: the 29th in the 59th beat, the 30th in the 61st.
        Check.due("in 59", Check.night("W2900P2B10").out(), 59);
        Check.due("in 61", Check.night("W3000P2B10").out(), NONE);
        Check.due("in 61, a beat later", Check.night("W3000P2B10", 1).out(), 60);
        Check.due("in 62", Check.night("W3100P0B10").out(), NONE);
        Check.due("never", Check.night("W0100P0").out(), NONE);
        Check.due("as much as it grows", Check.night("W0540P0B40B40").out(), NONE);
    }

    private static void out() {
        Check.says("Promise 16", "OUT; NONE.");
        Check.due("new", new BucketChain().out(), 0);
        Check.due("OUT", Check.night("W0500P0B50").out(), 2);
        Check.due("NONE", Check.night("W0100").out(), NONE);
        BucketChain was = Check.night("W0590P0B90B90", 1);
        Check.due("it grows ahead of it: 14 less 9 and 9 more, for ever", was.out(), NONE);
        Check.due("one that is out stays so", Check.night("W0540P0B90", 5).out(), 0);
    }

    /** The pail is at the last stand, THE BEAT is odd, a slow one is there: plain ones are 3 and, if first is 0, 0. */
    private static BucketChain slowLast(int first) {
        BucketChain chain = Check.night("W5009P" + first + "P2P2P0P2B50");
        chain.change(2, 3);
        Check.beats(chain, first == 0 ? 5 : 7);
        Check.due("the pail is at the last STAND", chain.bucket(0, 2), 4);
        return chain;
    }

    private static void swapForBeats() {
        Check.says("Terms", "SWAP for n BEATS (1 .. 20): of all ways to have two CHANGED now, or none, "
            + "that by which most PINTS were THROWN in all behind n BEATS: how many;");
        BucketChain chain = Check.night("W0000P0B40");
        Check.due("swap(1, 0)", chain.swap(1, 0), 0);
        Check.due("swap(2, 0)", chain.swap(2, 0), 4);
        Check.due("swap(19, 0)", chain.swap(19, 0), 36);
        Check.due("swap(20, 0)", chain.swap(20, 0), 40);
        Check.beats(chain, 4);
        Check.due("in all: the past too", chain.swap(20, 0), 48);
        BucketChain slow = slowLast(2);
        Check.due("by a change: swap(1, 0)", slow.swap(1, 0), 5);
        Check.due("by none: later(1, 1)", slow.later(1, 1), 0);
    }

    private static void swapOfLikeOnes() {
        Check.says("Terms", "which (10 times the lesser number and the other one; of like ones none (99), then the least).");
        Check.due("the last two alone: swap(1, 1)", slowLast(2).swap(1, 1), 34);
        Check.due("the slow one throws in the next: none is like it", slowLast(2).swap(2, 1), 99);
        Check.due("04 and 34 are like: the least", slowLast(0).swap(1, 1), 4);
        // Both orders throw all nine or spill one: 0 and 1 are changed, so that the clumsy one throws.
        Check.due("0 and 1: 10 times 0, and 1", Check.night("W0009P1P0B90").swap(3, 1), 1);
        Check.due("of two like ones none", Check.night("W0009P0P0B90").swap(3, 1), 99);
        Check.due("nothing is thrown by any", Check.night("W0009P1P0B90").swap(1, 1), 99);
        BucketChain stands = Check.night("W0009P0P1P0B90");
        stands.change(0, 1);
        // Now 1 0 2 by stands; the clumsy one has to be last: 1 and 2 are changed.
        Check.due("numbers, not STANDS", stands.swap(4, 1), 12);
    }

    private static void swap() {
        Check.says("Promise 17", "SWAP: how many PINTS (what = 0), which (1).");
        Check.due("new: swap(1, 0)", new BucketChain().swap(1, 0), 0);
        Check.due("new: swap(20, 1)", new BucketChain().swap(20, 1), 99);
        Check.due("nobody: swap(20, 0)", Check.night("W5000B90B90").swap(20, 0), 0);
        Check.due("nobody: swap(20, 1)", Check.night("W5000B90B90").swap(20, 1), 99);
        Check.due("one alone", Check.night("W5000P0B90").swap(20, 1), 99);
        // Nobody but those there are can come in, and nobody of a night ahead: two throws of a child's 2 pints.
        BucketChain children = Check.night("W5009P0P0P0P0P0B90");
        for (int people = 1; people <= 4; people++) {
            Check.tell(children, "W5009" + "P3".repeat(people) + "B90");
            children.night();
            Check.due(people + " alike: swap(20, 0)", children.swap(20, 0), 4);
            Check.due(people + " alike: swap(20, 1)", children.swap(20, 1), 99);
        }
        Check.due("no BUCKET: swap(20, 0)", Check.night("W5000P0P1P2").swap(20, 0), 0);
        Check.due("no BUCKET: swap(20, 1)", Check.night("W5000P0P1P2").swap(20, 1), 99);
    }

    private static void swapBad() {
        Check.says("Promise 17", "BAD: n, what.");
        for (BucketChain chain : new BucketChain[] {new BucketChain(), busy()}) {
            for (int n : new int[] {0, 21, -1, MIN, MAX}) {
                Check.due("swap(" + n + ", 0)", chain.swap(n, 0), BAD);
                Check.due("swap(" + n + ", 1)", chain.swap(n, 1), BAD);
                Check.due("swap(" + n + ", 2)", chain.swap(n, 2), BAD);
            }
            for (int what : new int[] {-1, 2, MIN, MAX}) {
                Check.due("swap(1, " + what + ")", chain.swap(1, what), BAD);
                Check.due("swap(20, " + what + ")", chain.swap(20, what), BAD);
            }
        }
    }

    private static void lineForBeats() {
        Check.says("Terms", "LINE for n BEATS (1 .. 20): of all orders in which all could stand now "
            + "(by STANDS; what is HELD stays) that by which most PINTS were THROWN in all behind n BEATS;");
        BucketChain chain = Check.night("W0000P0B40");
        Check.due("line(1, 0)", chain.line(1, 0), 0);
        Check.due("line(2, 0)", chain.line(2, 0), 4);
        Check.due("line(19, 0)", chain.line(19, 0), 36);
        Check.due("line(20, 0)", chain.line(20, 0), 40);
        Check.beats(chain, 4);
        Check.due("in all: the past too", chain.line(20, 0), 48);
        // What the slow last one holds stays at the last stand, whoever comes there.
        Check.due("what is HELD stays", slowLast(2).line(1, 0), 5);
        // One clumsy one throws, the other one spills a pint; the least such order is no change of two alone.
        BucketChain two = Check.night("W0009P1P1P0P0B90");
        Check.due("of all orders: line(5, 0)", two.line(5, 0), 8);
        Check.due("of all orders: line(5, 1)", two.line(5, 1), 1342);
    }

    /** Puts all as told, stand by stand, by changes; all orders of those from at on, then the next one. */
    private static void tryOrders(int[] order, int at, String text, int beats, int[] best) {
        if (at == order.length) {
            BucketChain chain = Check.night(text, beats);
            int figures = 0;
            for (int stand = 0; stand < order.length; stand++) {
                chain.change(order[stand], chain.stand(stand, 0));
                figures = 10 * figures + order[stand] + 1;
            }
            int thrown = chain.later(20, 1);
            if (thrown > best[0] || thrown == best[0] && figures < best[1]) {
                best[0] = thrown;
                best[1] = figures;
            }
            return;
        }
        for (int person = 0; person < order.length; person++) {
            boolean stands = false;
            for (int stand = 0; stand < at; stand++) {
                stands |= order[stand] == person;
            }
            if (!stands) {
                order[at] = person;
                tryOrders(order, at + 1, text, beats, best);
            }
        }
    }

    private static void lineOfAllOrders() {
        String[] nights = {"P0P1P2P3P1", "P3P2P1P0P0", "P2P1P0P2P1", "P1P0P3P2", "P2P0P1", "P3P0", "P1"};
        for (String people : nights) {
            for (int beats = 0; beats <= 6; beats++) {
                String text = "W5001" + people + "B90B71B80";
                int[] best = {-1, 0};
                tryOrders(new int[people.length() / 2], 0, text, beats, best);
                BucketChain chain = Check.night(text, beats);
                Check.due(text + " behind " + beats + ": line(20, 0)", chain.line(20, 0), best[0]);
                Check.due(text + " behind " + beats + ": line(20, 1)", chain.line(20, 1), best[1]);
            }
        }
    }

    private static void lineOfLikeOnes() {
        Check.says("Terms", "of like ones the least (figures, 1 more than the number, STAND by STAND): "
            + "how many; the order (nobody: 0).");
        Check.due("nobody: how many", Check.night("W5000B90").line(20, 0), 0);
        Check.due("nobody: the order", Check.night("W5000B90").line(20, 1), 0);
        Check.due("new: the order", new BucketChain().line(1, 1), 0);
        Check.due("one", Check.night("W0000P3B90").line(1, 1), 1);
        Check.due("all are like", Check.night("W0000P0P0P0P0P0B90").line(20, 1), 12345);
        Check.due("nothing is thrown by any", Check.night("W0009P1P0P0P0P0B90").line(5, 1), 12345);
        Check.due("0 has to be last", Check.night("W0009P1P0P0P0P0B90").line(6, 1), 23451);
        Check.due("4 is last already", Check.night("W0009P0P0P0P0P1B90").line(6, 1), 12345);
        Check.due("0 or 3 has to be last: the least", slowLast(0).line(1, 1), 12354);
        BucketChain changed = Check.night("W0009P0P0P0P0P0B90");
        changed.change(0, 4);
        Check.due("the least of all orders, not the one that is", changed.line(6, 1), 12345);
    }

    private static void line() {
        Check.says("Promise 18", "LINE: how many PINTS (what = 0), the order (1).");
        Check.due("new: line(20, 0)", new BucketChain().line(20, 0), 0);
        BucketChain chain = Check.night("W0009P1P0B90");
        Check.due("line(3, 0)", chain.line(3, 0), 9);
        Check.due("line(3, 1)", chain.line(3, 1), 21);
        Check.due("no BUCKET: line(20, 0)", Check.night("W5000P0P1P2").line(20, 0), 0);
        Check.due("no BUCKET: line(20, 1)", Check.night("W5000P0P1P2").line(20, 1), 123);
    }

    private static void lineBad() {
        Check.says("Promise 18", "BAD: n, what.");
        for (BucketChain chain : new BucketChain[] {new BucketChain(), busy()}) {
            for (int n : new int[] {0, 21, -1, MIN, MAX}) {
                Check.due("line(" + n + ", 0)", chain.line(n, 0), BAD);
                Check.due("line(" + n + ", 1)", chain.line(n, 1), BAD);
                Check.due("line(" + n + ", 2)", chain.line(n, 2), BAD);
            }
            for (int what : new int[] {-1, 2, MIN, MAX}) {
                Check.due("line(1, " + what + ")", chain.line(1, what), BAD);
                Check.due("line(20, " + what + ")", chain.line(20, what), BAD);
            }
        }
    }

    private static void judged(BucketChain chain, int n, long row, int want) {
        Check.due("judge(" + n + ", " + row + ")", chain.judge(n, row), want);
    }

    /** Three people; pail 0 (a hole, 8 pints) is at stand 0, pail 1 (no hole) at the well, THE FIRE 25. */
    private static BucketChain three() {
        return Check.night("W2502P0P1P0B91B50", 1);
    }

    private static void judgedNumbers() {
        Check.says("Terms", "JUDGED: n doings (1 .. 4), told as three figures each");
        for (int n = 1; n <= 4; n++) {
            judged(three(), n, 0L, NONE);
            judged(new BucketChain(), n, 0L, NONE);
        }
        judged(three(), 0, 0L, BAD);
        judged(three(), 5, 0L, BAD);
    }

    private static void judgedBeats() {
        Check.says("Terms", "(0, 0, 0: A BEAT;");
        judged(three(), 1, 0L, NONE);
        judged(new BucketChain(), 4, 0L, NONE);
        // A told beat is one: pail 0 is at stand 1 behind one, at stand 2 behind two, thrown by the third.
        judged(three(), 2, 410L, NONE);
        judged(three(), 3, 420L, NONE);
        judged(three(), 4, 420L, 3);
        judged(three(), 1, 1L, 0);
        judged(three(), 1, 10L, 0);
    }

    private static void judgedChanges() {
        Check.says("Terms", "1, two: CHANGED;");
        for (int one = 0; one <= 9; one++) {
            for (int other = 0; other <= 9; other++) {
                boolean can = one < 3 && other < 3 && one != other;
                judged(three(), 1, 100 + 10 * one + other, can ? NONE : 0);
            }
        }
        BucketChain five = Check.night("W0000P0P0P0P0P0");
        judged(five, 1, 134L, NONE);
        judged(five, 1, 140L, NONE);
        judged(five, 1, 145L, 0);
        judged(Check.night("W0000P0"), 1, 100L, 0);
        judged(Check.night("W0000P0"), 1, 101L, 0);
        judged(new BucketChain(), 1, 101L, 0);
    }

    private static void judgedBuckets() {
        Check.says("Terms", "2, 0, a BUCKET: MENDED, that has a HOLE; 3, 0, a BUCKET: DROPPED;");
        for (int figures = 0; figures <= 99; figures++) {
            judged(three(), 1, 200 + figures, figures == 0 ? NONE : 0);
            judged(three(), 1, 300 + figures, figures == 0 ? NONE : 0);
        }
        judged(three(), 2, 200200L, 1);
        judged(three(), 2, 300300L, 1);
        judged(three(), 2, 300200L, NONE);
        BucketChain four = Check.night("W0009P0P0P0P0B11B11B11B11", 4);
        judged(four, 4, 200201202203L, NONE);
        judged(four, 4, 300301302303L, NONE);
        judged(four, 1, 204L, 0);
        judged(four, 1, 304L, 0);
        judged(new BucketChain(), 1, 200L, 0);
        judged(new BucketChain(), 1, 300L, 0);
    }

    private static void judgedHeld() {
        Check.says("Terms", "4, a STAND, a BUCKET: it is HELD there; 5, a BUCKET, v: it is HELD, and has v PINTS or more;");
        for (int figures = 0; figures <= 99; figures++) {
            judged(three(), 1, 400 + figures, figures == 0 ? NONE : 0);
            judged(three(), 1, 500 + figures, figures <= 8 ? NONE : 0);
        }
        // At the well is no stand 8, on its way is no stand 9.
        BucketChain away = Check.night("W0003P0B10B20B30", 2);
        judged(away, 1, 490L, 0);
        judged(away, 1, 482L, 0);
        judged(away, 1, 401L, NONE);
        judged(away, 1, 500L, 0);
        judged(away, 1, 510L, NONE);
        judged(away, 1, 512L, NONE);
        judged(away, 1, 513L, 0);
        judged(away, 1, 520L, 0);
        judged(away, 1, 530L, 0);
        BucketChain last = Check.night("W0009P0P0P0P0P0B11B10B10B90", 5);
        judged(last, 4, 440431422413L, NONE);
        judged(last, 1, 500L, NONE);
        judged(last, 1, 501L, 0);
        judged(last, 1, 539L, NONE);
        judged(last, 1, 403L, 0);
        judged(new BucketChain(), 1, 400L, 0);
        judged(new BucketChain(), 1, 500L, 0);
    }

    private static void judgedFire() {
        Check.says("Terms", "6, a figure, a figure: THE FIRE is 10 times the one and the other, or less):");
        for (int fire = 0; fire <= 99; fire += 11) {
            BucketChain chain = Check.night("W" + fire / 10 + fire % 10 + "00");
            for (int told = 0; told <= 99; told++) {
                judged(chain, 1, 600 + told, fire <= told ? NONE : 0);
            }
        }
        judged(new BucketChain(), 1, 600L, NONE);
    }

    private static void judgedForms() {
        // 7, 8, 9 are no doings.
        for (long figures = 700; figures <= 999; figures++) {
            judged(three(), 1, figures, 0);
        }
    }

    private static void judgedPlaces() {
        Check.says("Terms", "the place of the first that can not be (or is not so); NONE: none.");
        judged(three(), 4, 999000000000L, 0);
        judged(three(), 4, 999000000L, 1);
        judged(three(), 4, 999000L, 2);
        judged(three(), 4, 999L, 3);
        judged(three(), 4, 0L, NONE);
        judged(three(), 4, 624000000624L, 0);
        judged(three(), 4, 625101410000L, 2);
        // Pail 0 is at stand 1 behind a beat, not ahead of it.
        judged(three(), 4, 101102120999L, 3);
        judged(three(), 3, 101410L, NONE);
        judged(three(), 3, 410101L, NONE);
        judged(three(), 3, 410000101L, 0);
        // Doings that can not be end it; what is judged again begins anew.
        BucketChain chain = three();
        judged(chain, 2, 200200L, 1);
        judged(chain, 2, 200200L, 1);
    }

    private static void judge() {
        Check.says("Promise 19", "JUDGED; NONE.");
        judged(three(), 1, 400L, NONE);
        judged(three(), 1, 401L, 0);
        BucketChain chain = three();
        String before = Check.picture(chain);
        judged(chain, 4, 0L, NONE);
        judged(chain, 4, 101200300000L, NONE);
        judged(chain, 4, 101200300999L, 3);
        Check.dueSame("judge()", Check.picture(chain), before);
    }

    private static void judgeBad() {
        Check.says("Promise 19", "BAD: n, row (0 or more, 3 n figures at most).");
        for (BucketChain chain : new BucketChain[] {new BucketChain(), three(), busy()}) {
            for (int n : new int[] {0, 5, -1, MIN, MAX}) {
                judged(chain, n, 0L, BAD);
                judged(chain, n, -1L, BAD);
                judged(chain, n, 999L, BAD);
            }
            long beyond = 1;
            for (int n = 1; n <= 4; n++) {
                beyond *= 1000;
                judged(chain, n, -1L, BAD);
                judged(chain, n, Long.MIN_VALUE, BAD);
                judged(chain, n, beyond - 1, 0);
                judged(chain, n, beyond, BAD);
                judged(chain, n, Long.MAX_VALUE, BAD);
                // As an int, or with fewer bits, this would be 0.
                judged(chain, n, 1L << 48, BAD);
                judged(chain, n, 1L << 62, BAD);
            }
            judged(chain, 1, 1L << 32, BAD);
            judged(chain, 2, 1L << 32, BAD);
        }
    }

    private static void dueShare(BucketChain chain, int bucket, int upper, int lower) {
        Check.dueFraction("share(" + bucket + ")",
            chain.share(bucket, true), chain.share(bucket, false), upper, lower);
    }

    private static void shareFromNowOn() {
        Check.says("Terms", "SHARE of a BUCKET: if BUCKETS come one by one, in each order as likely (others are nowhere): "
            + "by how many PINTS in the mean more are THROWN in 12 BEATS from now on when it has come than were: a FRACTION.");
        // It is thrown in beat 4 and, by a way back of 2, in beat 11, the twelfth; by 3 it would be beat 12.
        dueShare(Check.night("W0002P0P0P0P0B50"), 0, 10, 1);
        dueShare(Check.night("W0003P0P0P0P0B50"), 0, 5, 1);
        // From now on: what was thrown ahead is not in it.
        dueShare(Check.night("W0000P0B50", 2), 0, 30, 1);
        dueShare(Check.night("W0009P0B50", 2), 0, 5, 1);
        // Both take turns: 9 in beats 1, 3, .. alone; 1 alone likewise; both 9 1 9 1 .. in each of 11 beats.
        BucketChain turns = Check.night("W0000P0B90B10");
        // Alone 54 and 6; both 6 times 9 and 5 times 1 is 59: 54 and 53 in the mean, 6 and 5.
        dueShare(turns, 0, 107, 2);
        dueShare(turns, 1, 11, 2);
        // 0 is held; when it is nowhere, its stand is free, and 1 comes: 9 alone, 8 alone, both 17.
        BucketChain held = Check.night("W0009P2B90B80", 1);
        dueShare(held, 0, 9, 1);
        dueShare(held, 1, 8, 1);
    }

    private static void share() {
        Check.says("Promise 20", "SHARE.");
        dueShare(Check.night("W0000P0B10"), 0, 6, 1);
        dueShare(Check.night("W0000B90"), 0, 0, 1);
        BucketChain four = Check.night("W0009P0B10B20B30B40");
        for (int bucket = 0; bucket < 4; bucket++) {
            // Each is thrown once, alone or not: the first comes again in beat 11, too late to be thrown.
            dueShare(four, bucket, bucket + 1, 1);
        }
    }

    private static void shareUnknown() {
        Check.says("Promise 20", "UNKNOWN.");
        for (int buckets = 0; buckets <= 4; buckets++) {
            BucketChain chain = Check.night("W5011P0P0" + "B51".repeat(buckets), 2);
            for (int out : new int[] {-1, buckets, 4, MIN, MAX}) {
                Check.due("of " + buckets + ": share(" + out + ", true)", chain.share(out, true), UNKNOWN);
                Check.due("of " + buckets + ": share(" + out + ", false)", chain.share(out, false), UNKNOWN);
            }
        }
    }

    private static void fractions() {
        Check.says("Terms", "FRACTIONS are told above (upper = true; less than 0, if they are), below, in least terms.");
        // A slow one alone throws in beats 2, 4, .. 10: 45 or 5 alone, both in turn 9 1 9 1 9 is 29.
        BucketChain less = Check.night("W0000P2B90B10");
        dueShare(less, 0, 69, 2);
        dueShare(less, 1, -11, 2);
        dueShare(Check.night("W0000B90B10"), 1, 0, 1);
        Check.dueFraction("falls(0, 5) of nothing HELD",
            less.falls(0, 5, true), less.falls(0, 5, false), 1, 1);
        Check.dueFraction("falls(99, 5) of nothing HELD",
            less.falls(99, 5, true), less.falls(99, 5, false), 0, 1);
    }
}
