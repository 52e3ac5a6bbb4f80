import java.math.BigInteger;
import java.util.ArrayDeque;
import java.util.ArrayList;
import java.util.Deque;
import java.util.List;
import java.util.regex.Pattern;

/**
 * The document told a second time, with whole copies, lists and brute force, so that the class can be
 * compared with it. It shares no code and no way of counting with the class.
 */
final class Model {
    private static final int UNKNOWN = -1, BAD = -2, LATE = -3, FULL = -4, NONE = -9;
    private static final Pattern NIGHT = Pattern.compile("W[0-9]{4}(P[0-3]|B[1-9][01])*");

    /** One bucket; stand -1 while it is not held, way -1 while it is not on its way back. */
    private static final class Pail {
        int number, size, stand = -1, pints = 0, way = -1;
        boolean hole;

        Pail copy() {
            Pail other = new Pail();
            other.number = number;
            other.size = size;
            other.stand = stand;
            other.pints = pints;
            other.way = way;
            other.hole = hole;
            return other;
        }

        boolean atWell() {
            return stand < 0 && way < 0;
        }
    }

    /** All that moves. */
    private static final class World {
        List<Pail> pails = new ArrayList<>();
        List<Integer> row = new ArrayList<>();
        List<Integer> kinds = new ArrayList<>();
        List<Integer> idle = new ArrayList<>();
        int fire, grows, back, beat, thrown;

        World copy() {
            World other = new World();
            for (Pail pail : pails) {
                other.pails.add(pail.copy());
            }
            other.row.addAll(row);
            other.kinds.addAll(kinds);
            other.idle.addAll(idle);
            other.fire = fire;
            other.grows = grows;
            other.back = back;
            other.beat = beat;
            other.thrown = thrown;
            return other;
        }

        Pail heldAt(int stand) {
            return pails.stream().filter(p -> p.stand == stand).findFirst().orElse(null);
        }

        int kind(int stand) {
            return kinds.get(row.get(stand));
        }

        boolean atWork(int stand) {
            return !idle.contains(row.get(stand)) && (kind(stand) != 2 || beat % 2 == 0);
        }

        int doBeat() {
            int threw = 0;
            List<Pail> running = new ArrayList<>();
            for (Pail pail : pails) {
                if (pail.way >= 0) {
                    running.add(pail);
                }
            }
            int last = row.size() - 1;
            Pail flying = last < 0 ? null : heldAt(last);
            if (flying != null && !atWork(last)) {
                flying = null;
            }
            if (flying != null) {
                threw = flying.pints;
                fire = Math.max(0, fire - threw);
                thrown += threw;
                flying.stand = -1;
                flying.pints = 0;
                flying.way = back;
            }
            for (int stand = last - 1; stand >= 0; stand--) {
                Pail pail = heldAt(stand);
                if (pail != null && atWork(stand) && heldAt(stand + 1) == null) {
                    if (kind(stand) == 1 && pail.pints > 0) {
                        pail.pints--;
                    }
                    if (kind(stand + 1) == 3 && pail.pints > 2) {
                        pail.pints = 2;
                    }
                    pail.stand = stand + 1;
                }
            }
            if (last >= 0 && heldAt(0) == null) {
                for (Pail pail : pails) {
                    if (pail.atWell()) {
                        pail.stand = 0;
                        pail.pints = kind(0) == 3 && pail.size > 2 ? 2 : pail.size;
                        break;
                    }
                }
            }
            for (Pail pail : pails) {
                if (pail.stand >= 0 && pail.hole && pail.pints > 0) {
                    pail.pints--;
                }
            }
            for (Pail pail : running) {
                pail.way--;
                if (pail.way == 0) {
                    pail.way = -1;
                }
            }
            if (flying != null && flying.way == 0) {
                flying.way = -1;
            }
            if (fire > 0) {
                fire = Math.min(99, fire + grows);
            }
            beat++;
            return threw;
        }

        World ahead(int n) {
            World other = copy();
            for (int i = 0; i < n; i++) {
                other.doBeat();
            }
            return other;
        }

        void doChange(int one, int other) {
            int a = row.indexOf(one);
            int b = row.indexOf(other);
            row.set(a, other);
            row.set(b, one);
        }

        void doDrop(int bucket) {
            Pail pail = pails.get(bucket);
            pail.stand = -1;
            pail.pints = 0;
            pail.way = back == 0 ? -1 : back;
        }

        boolean isPerson(int p) {
            return p >= 0 && p < row.size();
        }

        boolean isBucket(int b) {
            return b >= 0 && b < pails.size();
        }

        boolean told(int kind, int a, int b) {
            if (kind == 0 && a == 0 && b == 0) {
                doBeat();
                return true;
            }
            if (kind == 1 && isPerson(a) && isPerson(b) && a != b) {
                doChange(a, b);
                return true;
            }
            if (kind == 2 && a == 0 && isBucket(b) && pails.get(b).hole) {
                pails.get(b).hole = false;
                return true;
            }
            if (kind == 3 && a == 0 && isBucket(b) && pails.get(b).stand >= 0) {
                doDrop(b);
                return true;
            }
            if (kind == 4) {
                return isBucket(b) && isPerson(a) && pails.get(b).stand == a;
            }
            if (kind == 5) {
                return isBucket(a) && pails.get(a).stand >= 0 && pails.get(a).pints >= b;
            }
            return kind == 6 && fire <= 10 * a + b;
        }
    }

    private String text = "";
    private World world = new World();
    private final Deque<World> acts = new ArrayDeque<>();
    private final World[] slots = new World[2];
    private final List<int[]> seen = new ArrayList<>();
    private long seed = 0;

    int write(int letter) {
        if (letter < 0 || letter > 255) {
            return BAD;
        }
        if (text.length() == 36) {
            return FULL;
        }
        text += (char) letter;
        return text.length();
    }

    int wipe() {
        int was = text.length();
        text = "";
        return was;
    }

    private static long count(String night, char letter) {
        return night.chars().filter(c -> c == letter).count();
    }

    private static boolean isNight(String night) {
        return NIGHT.matcher(night).matches() && count(night, 'P') <= 5 && count(night, 'B') <= 4;
    }

    /** Whether something could come behind it that makes it a night. */
    private static boolean canBe(String start) {
        String head = "W0000";
        String rest = start.length() < 5 ? head.substring(start.length()) : "";
        for (String more : new String[] {"", "0", "1", "10"}) {
            if (isNight(start + rest + more)) {
                return true;
            }
        }
        return false;
    }

    int fault() {
        for (int at = 0; at < text.length(); at++) {
            if (!canBe(text.substring(0, at + 1))) {
                return at;
            }
        }
        return isNight(text) ? NONE : text.length();
    }

    int night() {
        if (fault() != NONE) {
            return LATE;
        }
        world = new World();
        world.fire = Integer.parseInt(text.substring(1, 3));
        world.grows = text.charAt(3) - '0';
        world.back = text.charAt(4) - '0';
        for (int at = 5; at < text.length(); at++) {
            if (text.charAt(at) == 'P') {
                world.row.add(world.kinds.size());
                world.kinds.add(text.charAt(at + 1) - '0');
            } else if (text.charAt(at) == 'B') {
                Pail pail = new Pail();
                pail.number = world.pails.size();
                pail.size = text.charAt(at + 1) - '0';
                pail.hole = text.charAt(at + 2) == '1';
                world.pails.add(pail);
            }
        }
        acts.clear();
        slots[0] = null;
        slots[1] = null;
        return 10 * world.row.size() + world.pails.size();
    }

    int about(int what) {
        int held = 0, well = 0, way = 0, holes = 0;
        for (Pail pail : world.pails) {
            held += pail.stand >= 0 ? 1 << pail.stand : 0;
            well += pail.atWell() ? 1 << pail.number : 0;
            way += pail.way >= 0 ? 1 << pail.number : 0;
            holes += pail.hole ? 1 << pail.number : 0;
        }
        int[] all = {world.row.size(), world.pails.size(), world.fire, world.grows, world.back, world.beat,
            world.thrown, held, well, way, holes, acts.size(), seen.size(), text.length()};
        return what < 0 || what >= all.length ? BAD : all[what];
    }

    int person(int person, int what) {
        if (!world.isPerson(person)) {
            return UNKNOWN;
        }
        return what == 0 ? world.kinds.get(person) : what == 1 ? world.row.indexOf(person) : BAD;
    }

    int stand(int stand, int what) {
        if (!world.isPerson(stand)) {
            return UNKNOWN;
        }
        Pail pail = world.heldAt(stand);
        return what == 0 ? world.row.get(stand) : what == 1 ? (pail == null ? NONE : pail.number) : BAD;
    }

    int bucket(int bucket, int what) {
        if (!world.isBucket(bucket)) {
            return UNKNOWN;
        }
        Pail pail = world.pails.get(bucket);
        int place = pail.stand >= 0 ? pail.stand : pail.way >= 0 ? 9 : 8;
        int[] all = {pail.size, pail.hole ? 1 : 0, place, pail.pints, Math.max(0, pail.way)};
        return what < 0 || what >= all.length ? BAD : all[what];
    }

    private void act() {
        acts.addLast(world);
        if (acts.size() > 14) {
            acts.removeFirst();
        }
        world = world.copy();
    }

    int beat() {
        act();
        return world.doBeat();
    }

    int change(int one, int other) {
        if (!world.isPerson(one) || !world.isPerson(other)) {
            return UNKNOWN;
        }
        if (one == other) {
            return BAD;
        }
        act();
        world.doChange(one, other);
        return world.row.indexOf(one);
    }

    int mend(int bucket) {
        if (!world.isBucket(bucket)) {
            return UNKNOWN;
        }
        if (!world.pails.get(bucket).hole) {
            return LATE;
        }
        act();
        world.pails.get(bucket).hole = false;
        return (int) world.pails.stream().filter(p -> p.hole).count();
    }

    int drop(int bucket) {
        if (!world.isBucket(bucket)) {
            return UNKNOWN;
        }
        if (world.pails.get(bucket).stand < 0) {
            return LATE;
        }
        act();
        int had = world.pails.get(bucket).pints;
        world.doDrop(bucket);
        return had;
    }

    int undo() {
        if (acts.isEmpty()) {
            return LATE;
        }
        world = acts.removeLast();
        return acts.size();
    }

    int later(int n, int what) {
        if (n < 0 || n > 40 || what < 0 || what > 1) {
            return BAD;
        }
        World then = world.ahead(n);
        return what == 0 ? then.fire : then.thrown;
    }

    int out() {
        for (int n = 0; n <= 60; n++) {
            if (world.ahead(n).fire == 0) {
                return n;
            }
        }
        return NONE;
    }

    int swap(int n, int what) {
        if (n < 1 || n > 20 || what < 0 || what > 1) {
            return BAD;
        }
        int best = -1, which = -1;
        for (int choice = -1; choice < 100; choice++) {
            int one = choice / 10, other = choice % 10;
            World then = world.copy();
            if (choice >= 0) {
                if (!world.isPerson(other) || one >= other) {
                    continue;
                }
                then.doChange(one, other);
            }
            int thrown = then.ahead(n).thrown;
            if (thrown > best) {
                best = thrown;
                which = choice < 0 ? 99 : choice;
            }
        }
        return what == 0 ? best : which;
    }

    private static void orders(List<Integer> start, int people, List<List<Integer>> all) {
        if (start.size() == people) {
            all.add(new ArrayList<>(start));
            return;
        }
        for (int person = people - 1; person >= 0; person--) {
            if (!start.contains(person)) {
                start.add(person);
                orders(start, people, all);
                start.remove(start.size() - 1);
            }
        }
    }

    private static List<List<Integer>> orders(int people) {
        List<List<Integer>> all = new ArrayList<>();
        orders(new ArrayList<>(), people, all);
        return all;
    }

    int line(int n, int what) {
        if (n < 1 || n > 20 || what < 0 || what > 1) {
            return BAD;
        }
        int best = -1, least = 0;
        for (List<Integer> order : orders(world.row.size())) {
            World then = world.copy();
            then.row = order;
            int figures = 0;
            for (int person : order) {
                figures = figures * 10 + person + 1;
            }
            int thrown = then.ahead(n).thrown;
            if (thrown > best || thrown == best && figures < least) {
                best = thrown;
                least = figures;
            }
        }
        return what == 0 ? best : least;
    }

    int judge(int n, long row) {
        if (n < 1 || n > 4 || row < 0 || Long.toString(row).length() > 3 * n) {
            return BAD;
        }
        String figures = String.format("%0" + 3 * n + "d", row);
        World then = world.copy();
        for (int at = 0; at < n; at++) {
            if (!then.told(figures.charAt(3 * at) - '0', figures.charAt(3 * at + 1) - '0',
                    figures.charAt(3 * at + 2) - '0')) {
                return at;
            }
        }
        return NONE;
    }

    private static int told(long above, long below, boolean upper) {
        BigInteger a = BigInteger.valueOf(above), b = BigInteger.valueOf(below);
        BigInteger common = a.gcd(b);
        return (upper ? a : b).divide(common).intValueExact();
    }

    private int thrownWith(List<Integer> present) {
        World then = world.copy();
        then.pails.removeIf(p -> !present.contains(p.number));
        return then.ahead(12).thrown - world.thrown;
    }

    int share(int bucket, boolean upper) {
        if (!world.isBucket(bucket)) {
            return UNKNOWN;
        }
        long sum = 0, count = 0;
        for (List<Integer> order : orders(world.pails.size())) {
            int at = order.indexOf(bucket);
            sum += thrownWith(order.subList(0, at + 1)) - thrownWith(order.subList(0, at));
            count++;
        }
        return told(sum, count, upper);
    }

    int see(int t, int v, int more) {
        if (t < 0 || t > 9 || v < 0 || v > 99 || more < 0 || more > 1) {
            return BAD;
        }
        if (seen.size() == 6) {
            return FULL;
        }
        seen.add(new int[] {t, v, more});
        return seen.size();
    }

    int unsee() {
        int was = seen.size();
        seen.clear();
        return was;
    }

    private boolean asSeen(int begins, int grows) {
        World fire = new World();
        fire.fire = begins;
        fire.grows = grows;
        for (int[] sight : seen) {
            int then = fire.ahead(sight[0]).fire;
            if (sight[2] == 1 ? then < sight[1] : then >= sight[1]) {
                return false;
            }
        }
        return true;
    }

    int fires(int what) {
        if (what < 0 || what > 1) {
            return BAD;
        }
        List<Integer> all = new ArrayList<>();
        for (int begins = 0; begins < 10; begins++) {
            for (int grows = 0; grows < 10; grows++) {
                if (asSeen(begins, grows)) {
                    all.add(10 * begins + grows);
                }
            }
        }
        return what == 0 ? all.size() : all.isEmpty() ? NONE : all.get(0);
    }

    private int has(int one, int other, int[] works, int whose) {
        World then = world.copy();
        if (works[0] == 0) {
            then.idle.add(one);
        }
        if (works[1] == 0) {
            then.idle.add(other);
        }
        return then.ahead(8).thrown - world.thrown - 6 * works[whose];
    }

    int rests(int one, int other, int what) {
        if (!world.isPerson(one) || !world.isPerson(other)) {
            return UNKNOWN;
        }
        if (one == other || what < 0 || what > 1) {
            return BAD;
        }
        List<Integer> all = new ArrayList<>();
        for (int a = 0; a < 2; a++) {
            for (int b = 0; b < 2; b++) {
                int[] pair = {a, b};
                if (has(one, other, pair, 0) >= has(one, other, new int[] {1 - a, b}, 0)
                        && has(one, other, pair, 1) >= has(one, other, new int[] {a, 1 - b}, 1)) {
                    all.add(10 * a + b);
                }
            }
        }
        return what == 0 ? all.size() : all.isEmpty() ? NONE : all.get(0);
    }

    private static long waysOf(World start, int bucket, int v, int x) {
        if (bucket == start.pails.size()) {
            return start.ahead(10).thrown - start.thrown >= v ? 1 : 0;
        }
        if (start.pails.get(bucket).stand < 0) {
            return waysOf(start, bucket + 1, v, x);
        }
        World fallen = start.copy();
        fallen.doDrop(bucket);
        return x * waysOf(fallen, bucket + 1, v, x) + (10 - x) * waysOf(start, bucket + 1, v, x);
    }

    int falls(int v, int x, boolean upper) {
        if (v < 0 || v > 99 || x < 0 || x > 10) {
            return BAD;
        }
        long below = 1;
        for (Pail pail : world.pails) {
            below *= pail.stand >= 0 ? 10 : 1;
        }
        return told(waysOf(world, 0, v, x), below, upper);
    }

    long seed(long v) {
        long was = seed;
        seed = v;
        return was;
    }

    int nights(int m) {
        if (m < 1 || m > 30) {
            return BAD;
        }
        World then = world.copy();
        int sum = 0;
        BigInteger modulus = BigInteger.ONE.shiftLeft(64);
        for (int i = 0; i < m; i++) {
            BigInteger x = BigInteger.valueOf(seed).multiply(new BigInteger("6364136223846793005"))
                .add(new BigInteger("1442695040888963407")).mod(modulus);
            seed = x.longValue();
            int left = x.shiftRight(33).mod(BigInteger.valueOf(24)).intValue();
            if (left <= 3) {
                then.told(1, left, left + 1);
            } else if (left <= 7) {
                then.told(3, 0, left - 4);
            } else if (left <= 11) {
                then.told(2, 0, left - 8);
            } else {
                then.doBeat();
            }
            sum += then.fire;
        }
        return sum;
    }

    int keep(int slot) {
        if (slot < 0 || slot > 1) {
            return UNKNOWN;
        }
        slots[slot] = world.copy();
        return world.beat;
    }

    int again(int slot) {
        if (slot < 0 || slot > 1) {
            return UNKNOWN;
        }
        if (slots[slot] == null) {
            return LATE;
        }
        world = slots[slot].copy();
        acts.clear();
        return world.beat;
    }
}
