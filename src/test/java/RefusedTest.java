import java.util.ArrayList;
import java.util.List;
import java.util.function.Consumer;
import java.util.function.Function;
import java.util.function.ToLongFunction;

/**
 * Terms, part 4: each refused call in each of some states is told by the refusal that comes first and changes
 * nothing: two objects are made alike, one of them is asked what is refused, then both are looked at all through.
 */
public final class RefusedTest {
    private static final int UNKNOWN = BucketChain.UNKNOWN, BAD = BucketChain.BAD, LATE = BucketChain.LATE;
    private static final int FULL = BucketChain.FULL, NONE = BucketChain.NONE;
    private static final int[] BEYOND = {Integer.MIN_VALUE, Integer.MAX_VALUE, -1};

    /** A way to make an object, and what is known of it. */
    private record State(String name, int people, int buckets, Consumer<BucketChain> made) {
        BucketChain make() {
            BucketChain chain = new BucketChain();
            made.accept(chain);
            return chain;
        }

        boolean isFull() {
            return name.equals("full");
        }
    }

    /** A call that is refused in a state, and by what. */
    private record Refused(String call, int answer, ToLongFunction<BucketChain> asked) {
    }

    private static final List<State> STATES = List.of(
        new State("new", 0, 0, chain -> { }),
        new State("full", 5, 4, RefusedTest::makeFull),
        new State("busy", 3, 2, RefusedTest::makeBusy),
        new State("nobody", 0, 2, chain -> makeNight(chain, "W5021B91B50")),
        new State("no BUCKET", 3, 0, chain -> makeNight(chain, "W5021P0P2P1")),
        new State("one", 1, 1, chain -> makeNight(chain, "W5029P0B51")));

    public static void main(String[] args) {
        constants();
        for (State state : STATES) {
            Check.says("Terms", "Of several what is told first. What is refused changes nothing.");
            for (Refused refused : refusedIn(state)) {
                dueRefused(state, refused);
            }
        }
        Check.end();
    }

    private static void constants() {
        Check.says("Terms", "REFUSALS: UNKNOWN -1 (there is no such one, STAND, BUCKET, SLOT), BAD -2, LATE -3, FULL -4.");
        Check.due("UNKNOWN", UNKNOWN, -1);
        Check.due("BAD", BAD, -2);
        Check.due("LATE", LATE, -3);
        Check.due("FULL", FULL, -4);
        BucketChain chain = Check.night("W0000P0B10");
        Check.due("no such one", chain.person(1, 0), -1);
        Check.due("no such STAND", chain.stand(1, 0), -1);
        Check.due("no such BUCKET", chain.bucket(1, 0), -1);
        Check.due("no such SLOT", chain.keep(2), -1);
        Check.says("Terms", "NONE is -9.");
        Check.due("NONE", NONE, -9);
        Check.due("no FAULT", chain.fault(), -9);
        Check.due("no BUCKET is HELD", chain.stand(0, 1), -9);
    }

    // ---- states

    private static void makeNight(BucketChain chain, String text) {
        Check.tell(chain, text);
        chain.night();
        Check.beats(chain, 3);
    }

    /** All that can be full is full: the text, the acts, what is seen, both slots. */
    private static void makeFull(BucketChain chain) {
        Check.tell(chain, "W7712P0P1P2P3P0B91B50B71B40");
        chain.night();
        Check.beats(chain, 3);
        chain.keep(0);
        Check.beats(chain, 9);
        chain.change(1, 4);
        chain.mend(2);
        chain.keep(1);
        chain.drop(chain.stand(0, 1));
        Check.beats(chain, 4);
        for (int seen = 0; seen < 6; seen++) {
            chain.see(seen, 3 + seen, 1);
        }
        chain.seed(-77);
        for (int more = 0; more < 9; more++) {
            chain.write('0');
        }
    }

    /** Something of everything; the text has a fault. */
    private static void makeBusy(BucketChain chain) {
        Check.tell(chain, "W6012P0P1P2B91B50");
        chain.night();
        Check.beats(chain, 2);
        chain.change(0, 2);
        chain.keep(1);
        chain.beat();
        chain.see(2, 5, 0);
        chain.seed(1L << 40);
        chain.write('P');
    }

    // ---- what is refused

    private static List<Refused> refusedIn(State state) {
        List<Refused> all = new ArrayList<>();
        refusedTexts(state, all);
        refusedLooks(state, all);
        refusedChanges(state, all);
        refusedBuckets(state, all);
        refusedBeats(all);
        refusedJudging(all);
        refusedChances(state, all);
        refusedSlots(state, all);
        return all;
    }

    private static void add(List<Refused> all, String call, int answer, ToLongFunction<BucketChain> asked) {
        all.add(new Refused(call, answer, asked));
    }

    /** The first number that is out above, the one below 0, and the ends of an int. */
    private static int[] outOf(int count) {
        return new int[] {-1, count, Integer.MIN_VALUE, Integer.MAX_VALUE};
    }

    private static void refusedTexts(State state, List<Refused> all) {
        // Promise 2: BAD comes ahead of FULL.
        for (int letter : outOf(256)) {
            add(all, "write(" + letter + ")", BAD, chain -> chain.write(letter));
        }
        if (state.isFull()) {
            add(all, "write('W')", FULL, chain -> chain.write('W'));
        }
        // Promise 5: no TEXT, one that is full, one that is not at its end.
        if (state.name().equals("new") || state.isFull() || state.name().equals("busy")) {
            add(all, "night()", LATE, chain -> chain.night());
        }
    }

    private static void refusedLooks(State state, List<Refused> all) {
        // Promises 6 to 9: UNKNOWN comes ahead of BAD.
        for (int what : outOf(14)) {
            add(all, "about(" + what + ")", BAD, chain -> chain.about(what));
        }
        for (int one : outOf(state.people())) {
            for (int what : new int[] {0, 1, 2, -1}) {
                add(all, "person(" + one + ", " + what + ")", UNKNOWN, chain -> chain.person(one, what));
                add(all, "stand(" + one + ", " + what + ")", UNKNOWN, chain -> chain.stand(one, what));
            }
        }
        for (int bucket : outOf(state.buckets())) {
            for (int what : new int[] {0, 4, 5, -1}) {
                add(all, "bucket(" + bucket + ", " + what + ")", UNKNOWN, chain -> chain.bucket(bucket, what));
            }
        }
        for (int what : outOf(2)) {
            int answer = state.people() == 0 ? UNKNOWN : BAD;
            add(all, "person(0, " + what + ")", answer, chain -> chain.person(0, what));
            add(all, "stand(0, " + what + ")", answer, chain -> chain.stand(0, what));
        }
        for (int what : outOf(5)) {
            int answer = state.buckets() == 0 ? UNKNOWN : BAD;
            add(all, "bucket(0, " + what + ")", answer, chain -> chain.bucket(0, what));
        }
    }

    private static void refusedChanges(State state, List<Refused> all) {
        // Promises 11 and 24: UNKNOWN of either one comes ahead of BAD, that both are one, or what.
        for (int out : outOf(state.people())) {
            for (int other : new int[] {0, 1, out}) {
                add(all, "change(" + out + ", " + other + ")", UNKNOWN, chain -> chain.change(out, other));
                add(all, "change(" + other + ", " + out + ")", UNKNOWN, chain -> chain.change(other, out));
                for (int what : new int[] {0, 1, 2, -1}) {
                    add(all, "rests(" + out + ", " + other + ", " + what + ")", UNKNOWN,
                        chain -> chain.rests(out, other, what));
                    add(all, "rests(" + other + ", " + out + ", " + what + ")", UNKNOWN,
                        chain -> chain.rests(other, out, what));
                }
            }
        }
        for (int one = 0; one < state.people(); one++) {
            int same = one;
            add(all, "change(" + one + ", " + one + ")", BAD, chain -> chain.change(same, same));
            for (int what : new int[] {0, 1, 2, -1}) {
                add(all, "rests(" + one + ", " + one + ", " + what + ")", BAD, chain -> chain.rests(same, same, what));
            }
        }
        if (state.people() > 1) {
            for (int what : outOf(2)) {
                add(all, "rests(0, 1, " + what + ")", BAD, chain -> chain.rests(0, 1, what));
            }
        }
    }

    private static void refusedBuckets(State state, List<Refused> all) {
        // Promises 12, 13, 20.
        for (int bucket : outOf(state.buckets())) {
            add(all, "mend(" + bucket + ")", UNKNOWN, chain -> chain.mend(bucket));
            add(all, "drop(" + bucket + ")", UNKNOWN, chain -> chain.drop(bucket));
            add(all, "share(" + bucket + ", true)", UNKNOWN, chain -> chain.share(bucket, true));
            add(all, "share(" + bucket + ", false)", UNKNOWN, chain -> chain.share(bucket, false));
        }
        BucketChain look = state.make();
        for (int bucket = 0; bucket < state.buckets(); bucket++) {
            int number = bucket;
            if (look.bucket(bucket, 1) == 0) {
                add(all, "mend(" + bucket + ")", LATE, chain -> chain.mend(number));
            }
            if (look.bucket(bucket, 2) >= 8) {
                add(all, "drop(" + bucket + ")", LATE, chain -> chain.drop(number));
            }
        }
        // Promise 14.
        if (look.about(11) == 0) {
            add(all, "undo()", LATE, chain -> chain.undo());
        }
    }

    private static void refusedBeats(List<Refused> all) {
        // Promises 15, 17, 18, 23.
        for (int n : new int[] {-1, 41, BEYOND[0], BEYOND[1]}) {
            for (int what : new int[] {0, 1, 2, -1}) {
                add(all, "later(" + n + ", " + what + ")", BAD, chain -> chain.later(n, what));
            }
        }
        for (int n : new int[] {0, 21, -1, BEYOND[0], BEYOND[1]}) {
            for (int what : new int[] {0, 1, 2, -1}) {
                add(all, "swap(" + n + ", " + what + ")", BAD, chain -> chain.swap(n, what));
                add(all, "line(" + n + ", " + what + ")", BAD, chain -> chain.line(n, what));
            }
        }
        for (int what : outOf(2)) {
            add(all, "later(0, " + what + ")", BAD, chain -> chain.later(0, what));
            add(all, "later(40, " + what + ")", BAD, chain -> chain.later(40, what));
            add(all, "swap(1, " + what + ")", BAD, chain -> chain.swap(1, what));
            add(all, "swap(20, " + what + ")", BAD, chain -> chain.swap(20, what));
            add(all, "line(1, " + what + ")", BAD, chain -> chain.line(1, what));
            add(all, "line(20, " + what + ")", BAD, chain -> chain.line(20, what));
            add(all, "fires(" + what + ")", BAD, chain -> chain.fires(what));
        }
    }

    private static void refusedJudging(List<Refused> all) {
        // Promise 19.
        for (int n : new int[] {0, 5, -1, BEYOND[0], BEYOND[1]}) {
            for (long row : new long[] {0, -1, 1000, Long.MAX_VALUE, Long.MIN_VALUE}) {
                add(all, "judge(" + n + ", " + row + ")", BAD, chain -> chain.judge(n, row));
            }
        }
        long beyond = 1;
        for (int doings = 1; doings <= 4; doings++) {
            beyond *= 1000;
            int n = doings;
            for (long row : new long[] {-1, beyond, Long.MAX_VALUE, Long.MIN_VALUE}) {
                add(all, "judge(" + n + ", " + row + ")", BAD, chain -> chain.judge(n, row));
            }
        }
    }

    private static void refusedChances(State state, List<Refused> all) {
        // Promise 21: BAD comes ahead of FULL.
        for (int t : outOf(10)) {
            add(all, "see(" + t + ", 0, 0)", BAD, chain -> chain.see(t, 0, 0));
        }
        for (int v : outOf(100)) {
            add(all, "see(9, " + v + ", 1)", BAD, chain -> chain.see(9, v, 1));
        }
        for (int more : outOf(2)) {
            add(all, "see(0, 99, " + more + ")", BAD, chain -> chain.see(0, 99, more));
        }
        if (state.isFull()) {
            add(all, "see(0, 0, 0)", FULL, chain -> chain.see(0, 0, 0));
            add(all, "see(9, 99, 1)", FULL, chain -> chain.see(9, 99, 1));
        }
        // Promise 25.
        for (int v : outOf(100)) {
            for (int x : new int[] {0, 10, 11, -1}) {
                add(all, "falls(" + v + ", " + x + ", true)", BAD, chain -> chain.falls(v, x, true));
            }
        }
        for (int x : outOf(11)) {
            add(all, "falls(0, " + x + ", true)", BAD, chain -> chain.falls(0, x, true));
            add(all, "falls(99, " + x + ", false)", BAD, chain -> chain.falls(99, x, false));
        }
        // Promise 27: what is refused leaves THE SEED too.
        for (int m : new int[] {0, 31, -1, BEYOND[0], BEYOND[1]}) {
            add(all, "nights(" + m + ")", BAD, chain -> chain.nights(m));
        }
    }

    private static void refusedSlots(State state, List<Refused> all) {
        // Promises 28 and 29.
        for (int slot : outOf(2)) {
            add(all, "keep(" + slot + ")", UNKNOWN, chain -> chain.keep(slot));
            add(all, "again(" + slot + ")", UNKNOWN, chain -> chain.again(slot));
        }
        if (!state.isFull()) {
            add(all, "again(0)", LATE, chain -> chain.again(0));
            if (!state.name().equals("busy")) {
                add(all, "again(1)", LATE, chain -> chain.again(1));
            }
        }
    }

    // ---- that it changes nothing

    private static void dueRefused(State state, Refused refused) {
        String name = state.name() + ": " + refused.call();
        Check.due(name, refused.asked().applyAsLong(state.make()), refused.answer());
        Check.due(name + " once more", askedTwice(state, refused), refused.answer());
        dueLike(name, state, refused, RefusedTest::allThatIs);
        dueLike(name, state, refused, RefusedTest::allThatWas);
        dueLike(name, state, refused, RefusedTest::allThatIsKept);
    }

    private static long askedTwice(State state, Refused refused) {
        BucketChain chain = state.make();
        refused.asked().applyAsLong(chain);
        return refused.asked().applyAsLong(chain);
    }

    private static void dueLike(String name, State state, Refused refused, Function<BucketChain, String> look) {
        BucketChain asked = state.make();
        refused.asked().applyAsLong(asked);
        Check.dueSame(name, look.apply(asked), look.apply(state.make()));
    }

    private static String allThatIs(BucketChain chain) {
        return Check.picture(chain) + ", " + chain.fault() + " " + chain.fires(0) + " " + chain.fires(1)
            + " " + chain.later(40, 0) + " " + chain.later(40, 1) + " " + chain.nights(30) + " " + chain.seed(0);
    }

    private static String allThatWas(BucketChain chain) {
        StringBuilder all = new StringBuilder();
        for (int act = 0; act <= 14; act++) {
            all.append(chain.undo()).append(": ").append(Check.scene(chain));
        }
        return all.toString();
    }

    private static String allThatIsKept(BucketChain chain) {
        StringBuilder all = new StringBuilder();
        for (int slot = 0; slot <= 1; slot++) {
            all.append(chain.again(slot)).append(": ").append(Check.scene(chain));
        }
        return all.append(chain.wipe()).append(' ').append(chain.unsee()).append(' ').append(chain.night()).toString();
    }
}
