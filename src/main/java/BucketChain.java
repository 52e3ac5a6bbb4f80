/**
 * People in a row hand full buckets from a well to a fire, and boys run back with the empty ones.
 * The words in capitals of the document are the plain names here; its promises say what each call answers.
 */
public final class BucketChain {
    public static final int UNKNOWN = -1, BAD = -2, LATE = -3, FULL = -4, NONE = -9;

    private static final int MOST_PEOPLE = 5;
    private static final int MOST_BUCKETS = 4;
    private static final int MOST_LETTERS = 36;
    private static final int MOST_ACTS = 14;
    private static final int MOST_SEEN = 6;
    private static final int MOST_FIRE = 99;
    private static final int SLOTS = 2;

    private static final int PLAIN = 0, CLUMSY = 1, SLOW = 2, CHILD = 3;
    private static final int CHILD_HOLDS = 2;

    // Where a bucket is: a stand's number, or one of these.
    private static final int WELL = 8, BACK = 9, NOWHERE = 10;

    private static final int DO_BEAT = 0, DO_CHANGE = 1, DO_MEND = 2, DO_DROP = 3;
    private static final int IS_HELD_THERE = 4, HAS_PINTS = 5, FIRE_AT_MOST = 6;

    private static final int LONGEST_LATER = 40;
    private static final int LONGEST_OUT = 60;
    private static final int LONGEST_SEARCH = 20;
    private static final int MOST_DOINGS = 4;
    private static final int MOST_NIGHTS = 30;
    private static final int NO_SWAP = 99;

    private final Text text;
    private final Plan draft;
    private final Plan plan;
    private final Scene now;
    private final Acts acts;
    private final Shelf slots;
    private int keptSlots;
    private final Sightings sightings;
    private final Search search;
    private final Forecast forecast;
    private long dice;

    public BucketChain() {
        text = new Text();
        draft = new Plan();
        plan = new Plan();
        now = new Scene(plan);
        Scene trial = new Scene(plan);
        acts = new Acts();
        slots = new Shelf(SLOTS);
        keptSlots = 0;
        sightings = new Sightings();
        search = new Search(plan, now, trial);
        forecast = new Forecast(plan, now, trial);
        dice = 0;
    }

    // ---- the night

    public int write(int letter) {
        if (letter < 0 || letter > 255) {
            return BAD;
        }
        return text.append(letter) ? text.length : FULL;
    }

    public int wipe() {
        int before = text.length;
        text.length = 0;
        return before;
    }

    public int fault() {
        return draft.readFrom(text);
    }

    public int night() {
        if (draft.readFrom(text) != NONE) {
            return LATE;
        }
        plan.readFrom(text);
        now.setUp();
        acts.clear();
        keptSlots = 0;
        return 10 * plan.people + plan.buckets;
    }

    public int about(int what) {
        switch (what) {
            case 0: return plan.people;
            case 1: return plan.buckets;
            case 2: return now.fire;
            case 3: return plan.growth;
            case 4: return plan.wayBack;
            case 5: return now.beats;
            case 6: return now.thrown;
            case 7: return now.holdingStands();
            case 8: return now.bucketsAt(WELL);
            case 9: return now.bucketsAt(BACK);
            case 10: return now.holes;
            case 11: return acts.count;
            case 12: return sightings.count;
            case 13: return text.length;
            default: return BAD;
        }
    }

    public int person(int person, int what) {
        if (!plan.hasPerson(person)) {
            return UNKNOWN;
        }
        switch (what) {
            case 0: return plan.kinds[person];
            case 1: return now.standOf(person);
            default: return BAD;
        }
    }

    public int stand(int stand, int what) {
        // There are as many stands as people.
        if (!plan.hasPerson(stand)) {
            return UNKNOWN;
        }
        switch (what) {
            case 0: return now.who[stand];
            case 1: return now.leastBucketAt(stand);
            default: return BAD;
        }
    }

    public int bucket(int bucket, int what) {
        if (!plan.hasBucket(bucket)) {
            return UNKNOWN;
        }
        switch (what) {
            case 0: return plan.sizes[bucket];
            case 1: return now.hasHole(bucket) ? 1 : 0;
            case 2: return now.place[bucket];
            case 3: return now.pints[bucket];
            case 4: return now.toGo[bucket];
            default: return BAD;
        }
    }

    // ---- acts

    public int beat() {
        acts.remember(now);
        return now.passBeat();
    }

    public int change(int one, int other) {
        if (!plan.hasPerson(one) || !plan.hasPerson(other)) {
            return UNKNOWN;
        }
        if (one == other) {
            return BAD;
        }
        acts.remember(now);
        now.exchange(one, other);
        return now.standOf(one);
    }

    public int mend(int bucket) {
        if (!plan.hasBucket(bucket)) {
            return UNKNOWN;
        }
        if (!now.hasHole(bucket)) {
            return LATE;
        }
        acts.remember(now);
        now.closeHole(bucket);
        return Integer.bitCount(now.holes);
    }

    public int drop(int bucket) {
        if (!plan.hasBucket(bucket)) {
            return UNKNOWN;
        }
        if (!now.isHeld(bucket)) {
            return LATE;
        }
        acts.remember(now);
        int had = now.pints[bucket];
        now.letFall(bucket);
        return had;
    }

    public int undo() {
        if (acts.count == 0) {
            return LATE;
        }
        acts.takeBack(now);
        return acts.count;
    }

    // ---- beats to come

    public int later(int n, int what) {
        if (n < 0 || n > LONGEST_LATER || !isZeroOrOne(what)) {
            return BAD;
        }
        return what == 0 ? forecast.fireIn(n) : forecast.thrownIn(n);
    }

    public int out() {
        return forecast.beatsUntilOut();
    }

    public int swap(int n, int what) {
        if (n < 1 || n > LONGEST_SEARCH || !isZeroOrOne(what)) {
            return BAD;
        }
        search.tryExchanges(n);
        return what == 0 ? search.bestThrown : search.bestChoice;
    }

    public int line(int n, int what) {
        if (n < 1 || n > LONGEST_SEARCH || !isZeroOrOne(what)) {
            return BAD;
        }
        search.tryOrders(n);
        return what == 0 ? search.bestThrown : search.bestChoice;
    }

    public int judge(int n, long row) {
        if (n < 1 || n > MOST_DOINGS || row < 0) {
            return BAD;
        }
        long beyond = 1;
        for (int doing = 0; doing < n; doing++) {
            beyond *= 1000;
        }
        return row < beyond ? forecast.firstWrongDoing(n, row) : BAD;
    }

    public int share(int bucket, boolean upper) {
        if (!plan.hasBucket(bucket)) {
            return UNKNOWN;
        }
        return leastTerm(forecast.gainOverOrders(bucket), factorial(plan.buckets), upper);
    }

    // ---- seen

    public int see(int t, int v, int more) {
        if (t < 0 || t > 9 || v < 0 || v > MOST_FIRE || !isZeroOrOne(more)) {
            return BAD;
        }
        return sightings.add(t, v, more) ? sightings.count : FULL;
    }

    public int unsee() {
        int before = sightings.count;
        sightings.count = 0;
        return before;
    }

    public int fires(int what) {
        if (!isZeroOrOne(what)) {
            return BAD;
        }
        return what == 0 ? sightings.countFires() : sightings.firstFire();
    }

    // ---- rests, chances

    public int rests(int one, int other, int what) {
        if (!plan.hasPerson(one) || !plan.hasPerson(other)) {
            return UNKNOWN;
        }
        if (one == other || !isZeroOrOne(what)) {
            return BAD;
        }
        int settled = forecast.settledPairs(one, other);
        if (what == 0) {
            return Integer.bitCount(settled);
        }
        return firstPair(settled);
    }

    public int falls(int v, int x, boolean upper) {
        if (v < 0 || v > 99 || x < 0 || x > 10) {
            return BAD;
        }
        int below = 1;
        for (int bucket = 0; bucket < MOST_BUCKETS; bucket++) {
            if (now.isHeld(bucket)) {
                below *= 10;
            }
        }
        return leastTerm(forecast.chanceOfThrowing(v, x), below, upper);
    }

    public long seed(long v) {
        long before = dice;
        dice = v;
        return before;
    }

    public int nights(int m) {
        if (m < 1 || m > MOST_NIGHTS) {
            return BAD;
        }
        int sum = 0;
        forecast.begin();
        for (int time = 0; time < m; time++) {
            dice = dice * 6364136223846793005L + 1442695040888963407L;
            sum += forecast.fireBehindChance((int) ((dice >>> 33) % 24));
        }
        return sum;
    }

    // ---- slots

    public int keep(int slot) {
        if (slot < 0 || slot >= SLOTS) {
            return UNKNOWN;
        }
        slots.store(slot, now);
        keptSlots |= 1 << slot;
        return now.beats;
    }

    public int again(int slot) {
        if (slot < 0 || slot >= SLOTS) {
            return UNKNOWN;
        }
        if ((keptSlots >> slot & 1) == 0) {
            return LATE;
        }
        slots.fetch(slot, now);
        acts.clear();
        return now.beats;
    }

    // ---- small helpers

    private static boolean isZeroOrOne(int what) {
        return what == 0 || what == 1;
    }

    private static int factorial(int n) {
        int product = 1;
        for (int factor = 2; factor <= n && factor <= MOST_PEOPLE; factor++) {
            product *= factor;
        }
        return product;
    }

    /** The upper or the lower number of above / below in least terms; below is 1 or more. */
    private static int leastTerm(int above, int below, boolean upper) {
        int common = commonDivisor(Math.abs(above), below);
        if (common == 0) {
            return 0;
        }
        return upper ? above / common : below / common;
    }

    private static int commonDivisor(int one, int other) {
        int larger = one;
        int rest = other;
        // Euclid's way with ints takes fewer than 50 turns.
        for (int turn = 0; turn < 64 && rest != 0; turn++) {
            int left = larger % rest;
            larger = rest;
            rest = left;
        }
        return larger;
    }

    /** The least pair of a set of pairs whose bit is 2 times the one's choice and the other's. */
    private static int firstPair(int pairs) {
        for (int pair = 0; pair < 4; pair++) {
            if ((pairs >> pair & 1) == 1) {
                return 10 * (pair >> 1) + (pair & 1);
            }
        }
        return NONE;
    }

    /** The bytes that were written. */
    private static final class Text {
        final int[] letters = new int[MOST_LETTERS];
        int length = 0;

        boolean append(int letter) {
            if (length < 0 || length >= letters.length) {
                return false;
            }
            letters[length] = letter;
            length++;
            return true;
        }
    }

    /** What a night's text tells, and what no act changes. */
    private static final class Plan {
        private static final int WANT_W = 0, WANT_TENS = 1, WANT_ONES = 2, WANT_GROWTH = 3, WANT_WAY = 4;
        private static final int WANT_PART = 5, WANT_KIND = 6, WANT_SIZE = 7, WANT_HOLE = 8;

        final int[] kinds = new int[MOST_PEOPLE];
        final int[] sizes = new int[MOST_BUCKETS];
        int people = 0;
        int buckets = 0;
        int holes = 0;
        int fire = 0;
        int growth = 0;
        int wayBack = 0;
        private int wanted = WANT_W;

        boolean hasPerson(int number) {
            return number >= 0 && number < people && number < kinds.length;
        }

        boolean hasBucket(int number) {
            return number >= 0 && number < buckets && number < sizes.length;
        }

        /** The place of the first fault, or NONE; only then the plan is whole. */
        int readFrom(Text text) {
            people = 0;
            buckets = 0;
            holes = 0;
            wanted = WANT_W;
            for (int at = 0; at < text.length && at < text.letters.length; at++) {
                if (!takeLetter(text.letters[at])) {
                    return at;
                }
            }
            return wanted == WANT_PART ? NONE : text.length;
        }

        private boolean takeLetter(int letter) {
            if (wanted == WANT_W) {
                wanted = WANT_TENS;
                return letter == 'W';
            }
            if (wanted == WANT_PART) {
                return openPart(letter);
            }
            int figure = letter - '0';
            return figure >= leastFigure() && figure <= mostFigure() && takeFigure(figure);
        }

        private boolean openPart(int letter) {
            if (letter == 'P' && people < kinds.length) {
                wanted = WANT_KIND;
                return true;
            }
            if (letter == 'B' && buckets < sizes.length) {
                wanted = WANT_SIZE;
                return true;
            }
            return false;
        }

        private int leastFigure() {
            return wanted == WANT_SIZE ? 1 : 0;
        }

        private int mostFigure() {
            switch (wanted) {
                case WANT_KIND: return CHILD;
                case WANT_HOLE: return 1;
                default: return 9;
            }
        }

        private boolean takeFigure(int figure) {
            switch (wanted) {
                case WANT_TENS:
                    fire = 10 * figure;
                    wanted = WANT_ONES;
                    return true;
                case WANT_ONES:
                    fire += figure;
                    wanted = WANT_GROWTH;
                    return true;
                case WANT_GROWTH:
                    growth = figure;
                    wanted = WANT_WAY;
                    return true;
                case WANT_WAY:
                    wayBack = figure;
                    wanted = WANT_PART;
                    return true;
                case WANT_KIND: return addPerson(figure);
                case WANT_SIZE: return startBucket(figure);
                case WANT_HOLE: return endBucket(figure);
                default: return false;
            }
        }

        private boolean addPerson(int kind) {
            if (people < 0 || people >= kinds.length) {
                return false;
            }
            kinds[people] = kind;
            people++;
            wanted = WANT_PART;
            return true;
        }

        private boolean startBucket(int size) {
            if (buckets < 0 || buckets >= sizes.length) {
                return false;
            }
            sizes[buckets] = size;
            wanted = WANT_HOLE;
            return true;
        }

        private boolean endBucket(int hole) {
            holes |= hole << buckets;
            buckets++;
            wanted = WANT_PART;
            return true;
        }
    }

    /** Where all are at one time, and how a beat or an act moves them. */
    private static final class Scene {
        final Plan plan;
        final int[] who = new int[MOST_PEOPLE];
        final int[] place = new int[MOST_BUCKETS];
        final int[] pints = new int[MOST_BUCKETS];
        final int[] toGo = new int[MOST_BUCKETS];
        int holes;
        int fire;
        int thrown;
        int beats;
        // People (bits) who never hand on or throw; only a forecast sets them.
        int resting;

        Scene(Plan plan) {
            this.plan = plan;
            setUp();
        }

        void setUp() {
            for (int stand = 0; stand < who.length; stand++) {
                who[stand] = stand;
            }
            for (int bucket = 0; bucket < place.length; bucket++) {
                place[bucket] = bucket < plan.buckets ? WELL : NOWHERE;
            }
            for (int bucket = 0; bucket < pints.length; bucket++) {
                pints[bucket] = 0;
            }
            for (int bucket = 0; bucket < toGo.length; bucket++) {
                toGo[bucket] = 0;
            }
            holes = plan.holes;
            fire = plan.fire;
            thrown = 0;
            beats = 0;
            resting = 0;
        }

        void copyFrom(Scene other) {
            System.arraycopy(other.who, 0, who, 0, MOST_PEOPLE);
            System.arraycopy(other.place, 0, place, 0, MOST_BUCKETS);
            System.arraycopy(other.pints, 0, pints, 0, MOST_BUCKETS);
            System.arraycopy(other.toGo, 0, toGo, 0, MOST_BUCKETS);
            holes = other.holes;
            fire = other.fire;
            thrown = other.thrown;
            beats = other.beats;
            resting = other.resting;
        }

        // ---- looking

        int standOf(int person) {
            for (int stand = 0; stand < who.length; stand++) {
                if (who[stand] == person) {
                    return stand;
                }
            }
            return NONE;
        }

        int leastBucketAt(int where) {
            for (int bucket = 0; bucket < place.length; bucket++) {
                if (place[bucket] == where) {
                    return bucket;
                }
            }
            return NONE;
        }

        int bucketsAt(int where) {
            int bits = 0;
            for (int bucket = 0; bucket < place.length; bucket++) {
                if (place[bucket] == where) {
                    bits |= 1 << bucket;
                }
            }
            return bits;
        }

        int holdingStands() {
            int bits = 0;
            for (int bucket = 0; bucket < place.length; bucket++) {
                if (place[bucket] < MOST_PEOPLE) {
                    bits |= 1 << place[bucket];
                }
            }
            return bits;
        }

        boolean isHeld(int bucket) {
            return bucket >= 0 && bucket < place.length && place[bucket] < MOST_PEOPLE;
        }

        boolean hasHole(int bucket) {
            return bucket >= 0 && bucket < MOST_BUCKETS && (holes >> bucket & 1) == 1;
        }

        private int kindAt(int stand) {
            if (stand < 0 || stand >= who.length) {
                return PLAIN;
            }
            int person = who[stand];
            return person >= 0 && person < plan.kinds.length ? plan.kinds[person] : PLAIN;
        }

        private boolean worksAt(int stand) {
            if (stand < 0 || stand >= who.length || (resting >> who[stand] & 1) == 1) {
                return false;
            }
            return kindAt(stand) != SLOW || (beats & 1) == 0;
        }

        // ---- acts

        void exchange(int one, int other) {
            int oneStand = standOf(one);
            int otherStand = standOf(other);
            if (oneStand < 0 || otherStand < 0) {
                return;
            }
            who[oneStand] = other;
            who[otherStand] = one;
        }

        void closeHole(int bucket) {
            holes &= ~(1 << bucket);
        }

        void letFall(int bucket) {
            if (!isHeld(bucket)) {
                return;
            }
            sendBack(bucket);
            if (toGo[bucket] == 0) {
                place[bucket] = WELL;
            }
        }

        /** The pints that are thrown in n beats. */
        int passBeats(int n) {
            int before = thrown;
            for (int beat = 0; beat < n; beat++) {
                passBeat();
            }
            return thrown - before;
        }

        /** The pints that are thrown in one beat. */
        int passBeat() {
            int before = thrown;
            int thrownBucket = throwLast();
            for (int stand = plan.people - 2; stand >= 0; stand--) {
                handOn(stand);
            }
            fillAtWell();
            leak();
            runBack(thrownBucket);
            if (fire != 0) {
                fire = Math.min(MOST_FIRE, fire + plan.growth);
            }
            beats++;
            return thrown - before;
        }

        /** The bucket that is thrown, or NONE. */
        private int throwLast() {
            int last = plan.people - 1;
            int bucket = leastBucketAt(last);
            if (bucket < 0 || !worksAt(last)) {
                return NONE;
            }
            fire = Math.max(0, fire - pints[bucket]);
            thrown += pints[bucket];
            // With no way back it still counts as under way, so that it is not filled again in this beat.
            sendBack(bucket);
            return bucket;
        }

        private void sendBack(int bucket) {
            place[bucket] = BACK;
            pints[bucket] = 0;
            toGo[bucket] = plan.wayBack;
        }

        private void handOn(int stand) {
            int bucket = leastBucketAt(stand);
            if (bucket < 0 || !worksAt(stand) || leastBucketAt(stand + 1) >= 0) {
                return;
            }
            int spilt = kindAt(stand) == CLUMSY ? 1 : 0;
            give(bucket, stand + 1, Math.max(0, pints[bucket] - spilt));
        }

        private void fillAtWell() {
            if (plan.people == 0 || leastBucketAt(0) >= 0) {
                return;
            }
            int bucket = leastBucketAt(WELL);
            if (bucket >= 0) {
                give(bucket, 0, plan.sizes[bucket]);
            }
        }

        private void give(int bucket, int stand, int load) {
            place[bucket] = stand;
            pints[bucket] = kindAt(stand) == CHILD ? Math.min(CHILD_HOLDS, load) : load;
        }

        private void leak() {
            for (int bucket = 0; bucket < pints.length; bucket++) {
                if (isHeld(bucket) && hasHole(bucket)) {
                    pints[bucket] = Math.max(0, pints[bucket] - 1);
                }
            }
        }

        private void runBack(int thrownBucket) {
            for (int bucket = 0; bucket < place.length; bucket++) {
                if (place[bucket] == BACK) {
                    toGo[bucket] -= bucket == thrownBucket ? 0 : 1;
                    place[bucket] = toGo[bucket] == 0 ? WELL : BACK;
                }
            }
        }

        // ---- told doings

        /** Does what is told, or looks whether it is so; false: it can not be, or is not so. */
        boolean follow(int doing, int first, int second) {
            switch (doing) {
                // A beat can always be: what it throws is 0 or more.
                case DO_BEAT: return first == 0 && second == 0 && passBeat() >= 0;
                case DO_CHANGE: return followChange(first, second);
                case DO_MEND: return first == 0 && followMend(second);
                case DO_DROP: return first == 0 && followDrop(second);
                case IS_HELD_THERE: return isHeld(second) && place[second] == first;
                case HAS_PINTS: return isHeld(first) && pints[first] >= second;
                case FIRE_AT_MOST: return fire <= 10 * first + second;
                default: return false;
            }
        }

        private boolean followChange(int one, int other) {
            if (!plan.hasPerson(one) || !plan.hasPerson(other) || one == other) {
                return false;
            }
            exchange(one, other);
            return true;
        }

        private boolean followMend(int bucket) {
            if (!hasHole(bucket)) {
                return false;
            }
            closeHole(bucket);
            return true;
        }

        private boolean followDrop(int bucket) {
            if (!isHeld(bucket)) {
                return false;
            }
            letFall(bucket);
            return true;
        }
    }

    /** Scenes laid by in one row of numbers, so that no call has to make an object. */
    private static final class Shelf {
        private static final int PLACES = MOST_PEOPLE, PINTS = PLACES + MOST_BUCKETS, WAYS = PINTS + MOST_BUCKETS;
        private static final int HOLES = WAYS + MOST_BUCKETS, FIRE = HOLES + 1, THROWN = FIRE + 1, BEATS = THROWN + 1;
        private static final int WIDTH = BEATS + 1;

        final int[] cells;

        /** rows is a constant of this file: 1 or more, and small. */
        Shelf(int rows) {
            cells = new int[rows < 1 ? WIDTH : rows * WIDTH];
        }

        private boolean hasRow(int row) {
            return row >= 0 && row < cells.length / WIDTH;
        }

        void store(int row, Scene scene) {
            if (!hasRow(row)) {
                return;
            }
            int from = row * WIDTH;
            System.arraycopy(scene.who, 0, cells, from, MOST_PEOPLE);
            System.arraycopy(scene.place, 0, cells, from + PLACES, MOST_BUCKETS);
            System.arraycopy(scene.pints, 0, cells, from + PINTS, MOST_BUCKETS);
            System.arraycopy(scene.toGo, 0, cells, from + WAYS, MOST_BUCKETS);
            cells[from + HOLES] = scene.holes;
            cells[from + FIRE] = scene.fire;
            cells[from + THROWN] = scene.thrown;
            cells[from + BEATS] = scene.beats;
        }

        void fetch(int row, Scene scene) {
            if (!hasRow(row)) {
                return;
            }
            int from = row * WIDTH;
            System.arraycopy(cells, from, scene.who, 0, MOST_PEOPLE);
            System.arraycopy(cells, from + PLACES, scene.place, 0, MOST_BUCKETS);
            System.arraycopy(cells, from + PINTS, scene.pints, 0, MOST_BUCKETS);
            System.arraycopy(cells, from + WAYS, scene.toGo, 0, MOST_BUCKETS);
            scene.holes = cells[from + HOLES];
            scene.fire = cells[from + FIRE];
            scene.thrown = cells[from + THROWN];
            scene.beats = cells[from + BEATS];
        }
    }

    /** How all was ahead of each of the last acts, in a ring. */
    private static final class Acts {
        private final Shelf shelf = new Shelf(MOST_ACTS);
        private int oldest = 0;
        int count = 0;

        void clear() {
            oldest = 0;
            count = 0;
        }

        void remember(Scene scene) {
            shelf.store((oldest + count) % MOST_ACTS, scene);
            if (count < MOST_ACTS) {
                count++;
            } else {
                oldest = (oldest + 1) % MOST_ACTS;
            }
        }

        void takeBack(Scene scene) {
            if (count <= 0) {
                return;
            }
            count--;
            shelf.fetch((oldest + count) % MOST_ACTS, scene);
        }
    }

    /** What was seen of an unknown fire on which nothing was thrown. */
    private static final class Sightings {
        private final int[] times = new int[MOST_SEEN];
        private final int[] bounds = new int[MOST_SEEN];
        private final int[] mores = new int[MOST_SEEN];
        int count = 0;

        boolean add(int time, int bound, int more) {
            if (count < 0 || count >= MOST_SEEN) {
                return false;
            }
            times[count] = time;
            bounds[count] = bound;
            mores[count] = more;
            count++;
            return true;
        }

        int countFires() {
            int fitting = 0;
            for (int fire = 0; fire < 100; fire++) {
                fitting += fits(fire / 10, fire % 10) ? 1 : 0;
            }
            return fitting;
        }

        int firstFire() {
            for (int fire = 0; fire < 100; fire++) {
                if (fits(fire / 10, fire % 10)) {
                    return fire;
                }
            }
            return NONE;
        }

        private boolean fits(int beginning, int growth) {
            for (int seen = 0; seen < count && seen < MOST_SEEN; seen++) {
                int fire = beginning == 0 ? 0 : Math.min(MOST_FIRE, beginning + growth * times[seen]);
                if ((fire >= bounds[seen]) != (mores[seen] == 1)) {
                    return false;
                }
            }
            return true;
        }
    }

    /** The change of two, or the order of all, by which most is thrown. */
    private static final class Search {
        private final Plan plan;
        private final Scene now;
        private final Scene trial;
        private final int[] order = new int[MOST_PEOPLE];
        int bestThrown = 0;
        int bestChoice = 0;

        Search(Plan plan, Scene now, Scene trial) {
            this.plan = plan;
            this.now = now;
            this.trial = trial;
        }

        void tryExchanges(int n) {
            trial.copyFrom(now);
            trial.passBeats(n);
            bestThrown = trial.thrown;
            bestChoice = NO_SWAP;
            for (int one = 0; one < plan.people; one++) {
                for (int other = one + 1; other < plan.people; other++) {
                    trial.copyFrom(now);
                    trial.exchange(one, other);
                    trial.passBeats(n);
                    prefer(10 * one + other);
                }
            }
        }

        /** Orders come from the least to the greatest, so the first of like ones is the least. */
        void tryOrders(int n) {
            for (int stand = 0; stand < order.length; stand++) {
                order[stand] = stand;
            }
            bestThrown = NONE;
            bestChoice = 0;
            boolean more = true;
            int orders = factorial(plan.people);
            for (int turn = 0; turn < orders && more; turn++) {
                trial.copyFrom(now);
                System.arraycopy(order, 0, trial.who, 0, MOST_PEOPLE);
                trial.passBeats(n);
                prefer(orderFigures());
                more = toNextOrder();
            }
        }

        private void prefer(int choice) {
            if (trial.thrown > bestThrown) {
                bestThrown = trial.thrown;
                bestChoice = choice;
            }
        }

        private int orderFigures() {
            int figures = 0;
            for (int stand = 0; stand < plan.people && stand < order.length; stand++) {
                figures = 10 * figures + order[stand] + 1;
            }
            return figures;
        }

        /** The order that is next by its figures; false: there is none. */
        private boolean toNextOrder() {
            int people = Math.min(plan.people, order.length);
            int pivot = people - 2;
            while (pivot >= 0 && order[pivot] > order[pivot + 1]) {
                pivot--;
            }
            if (pivot < 0) {
                return false;
            }
            int successor = people - 1;
            while (successor > pivot && order[successor] < order[pivot]) {
                successor--;
            }
            exchangeInOrder(pivot, successor);
            int right = people - 1;
            for (int left = pivot + 1; left < right; left++) {
                exchangeInOrder(left, right);
                right--;
            }
            return true;
        }

        private void exchangeInOrder(int one, int other) {
            if (one < 0 || one >= order.length || other < 0 || other >= order.length) {
                return;
            }
            int person = order[one];
            order[one] = order[other];
            order[other] = person;
        }
    }

    /** What would come; all of it happens on a trial scene. */
    private static final class Forecast {
        private static final int SHARE_BEATS = 12;
        private static final int REST_BEATS = 8;
        private static final int WORK_COST = 6;
        private static final int FALL_BEATS = 10;
        private static final int SUBSETS = 1 << MOST_BUCKETS;

        private final Plan plan;
        private final Scene now;
        private final Scene trial;

        Forecast(Plan plan, Scene now, Scene trial) {
            this.plan = plan;
            this.now = now;
            this.trial = trial;
        }

        void begin() {
            trial.copyFrom(now);
        }

        int fireIn(int n) {
            begin();
            trial.passBeats(n);
            return trial.fire;
        }

        int thrownIn(int n) {
            begin();
            trial.passBeats(n);
            return trial.thrown;
        }

        int beatsUntilOut() {
            begin();
            for (int beat = 0; beat <= LONGEST_OUT; beat++) {
                if (trial.fire == 0) {
                    return beat;
                }
                trial.passBeat();
            }
            return NONE;
        }

        /** The first doing, three figures each, is the uppermost one of the row. */
        int firstWrongDoing(int n, long row) {
            begin();
            for (int at = 0; at < n; at++) {
                long upper = row;
                for (int behind = at + 1; behind < n; behind++) {
                    upper /= 1000;
                }
                int figures = (int) (upper % 1000);
                if (!trial.follow(figures / 100, figures / 10 % 10, figures % 10)) {
                    return at;
                }
            }
            return NONE;
        }

        /** By how much more is thrown when the bucket comes, over all orders of coming, in sum. */
        int gainOverOrders(int bucket) {
            int sum = 0;
            for (int ahead = 0; ahead < 1 << plan.buckets && ahead < SUBSETS; ahead++) {
                if ((ahead >> bucket & 1) == 0) {
                    int count = Integer.bitCount(ahead);
                    int orders = factorial(count) * factorial(plan.buckets - 1 - count);
                    sum += orders * (thrownWith(ahead | 1 << bucket) - thrownWith(ahead));
                }
            }
            return sum;
        }

        private int thrownWith(int present) {
            begin();
            for (int bucket = 0; bucket < trial.place.length; bucket++) {
                if ((present >> bucket & 1) == 0) {
                    trial.place[bucket] = NOWHERE;
                }
            }
            return trial.passBeats(SHARE_BEATS);
        }

        /** Bits by 2 times the one's choice and the other's: pairs that neither would leave alone. */
        int settledPairs(int one, int other) {
            int idle = thrownWhen(one, other, 0);
            int otherWorks = thrownWhen(one, other, 1);
            int oneWorks = thrownWhen(one, other, 2);
            int both = thrownWhen(one, other, 3);
            int bits = 0;
            bits |= idle >= oneWorks - WORK_COST && idle >= otherWorks - WORK_COST ? 1 : 0;
            bits |= otherWorks >= both - WORK_COST && otherWorks - WORK_COST >= idle ? 2 : 0;
            bits |= oneWorks - WORK_COST >= idle && oneWorks >= both - WORK_COST ? 4 : 0;
            bits |= both - WORK_COST >= otherWorks && both - WORK_COST >= oneWorks ? 8 : 0;
            return bits;
        }

        private int thrownWhen(int one, int other, int choices) {
            begin();
            trial.resting = ((choices >> 1 & 1) == 0 ? 1 << one : 0) | ((choices & 1) == 0 ? 1 << other : 0);
            return trial.passBeats(REST_BEATS);
        }

        /** How many of 10 to the power of the held buckets: that v pints or more are thrown. */
        int chanceOfThrowing(int v, int x) {
            int sum = 0;
            for (int falling = 0; falling < SUBSETS; falling++) {
                int weight = weightOfFalling(falling, x);
                if (weight > 0 && thrownWithout(falling) >= v) {
                    sum += weight;
                }
            }
            return sum;
        }

        /** 0, if one falls that is not held. */
        private int weightOfFalling(int falling, int x) {
            int weight = 1;
            for (int bucket = 0; bucket < MOST_BUCKETS; bucket++) {
                boolean falls = (falling >> bucket & 1) == 1;
                if (now.isHeld(bucket)) {
                    weight *= falls ? x : 10 - x;
                } else if (falls) {
                    weight = 0;
                }
            }
            return weight;
        }

        private int thrownWithout(int falling) {
            begin();
            for (int bucket = 0; bucket < MOST_BUCKETS; bucket++) {
                if ((falling >> bucket & 1) == 1) {
                    trial.letFall(bucket);
                }
            }
            return trial.passBeats(FALL_BEATS);
        }

        /** The fire behind a doing that chance (0 .. 23) chose, if that can be. */
        int fireBehindChance(int chance) {
            if (chance < 4) {
                trial.follow(DO_CHANGE, chance, chance + 1);
            } else if (chance < 8) {
                trial.follow(DO_DROP, 0, chance - 4);
            } else if (chance < 12) {
                trial.follow(DO_MEND, 0, chance - 8);
            } else {
                trial.follow(DO_BEAT, 0, 0);
            }
            return trial.fire;
        }
    }
}
