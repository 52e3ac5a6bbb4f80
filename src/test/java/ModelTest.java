import java.util.Random;

/** Runs of calls by chance (the same ones each time), each answer compared with the model's. */
public final class ModelTest {
    private static final int RUNS = 1500;
    private static final int CALLS = 150;
    // Some runs go on to the last call that an object is promised for.
    private static final int LONG_RUN_EVERY = 20;
    private static final int LAST_CALL = 512;

    private final Random random;
    private final BucketChain chain = new BucketChain();
    private final Model model = new Model();
    private int spent = 0;

    private ModelTest(long seed) {
        random = new Random(seed);
    }

    public static void main(String[] args) {
        for (int run = 0; run < RUNS; run++) {
            new ModelTest(run).play(run);
        }
        Check.end();
    }

    private int upTo(int most) {
        return random.nextInt(most + 1);
    }

    /** Mostly 0 .. most, at times one less or one more, or something wild. */
    private int about(int most) {
        int dice = random.nextInt(60);
        return dice == 0 ? -1 : dice == 1 ? most + 1 : dice == 2 ? random.nextInt() : upTo(most);
    }

    private String someNight() {
        StringBuilder text = new StringBuilder("W");
        text.append(upTo(9)).append(upTo(9)).append(upTo(3)).append(random.nextInt(6) == 0 ? upTo(9) : upTo(2));
        int people = random.nextInt(20) == 0 ? 0 : 1 + upTo(4);
        int buckets = upTo(4);
        while (people + buckets > 0) {
            boolean person = random.nextInt(people + buckets) < people;
            if (person) {
                text.append('P').append(random.nextInt(3) == 0 ? upTo(3) : 0);
                people--;
            } else {
                text.append('B').append(1 + upTo(8)).append(upTo(1));
                buckets--;
            }
        }
        if (random.nextInt(4) == 0) {
            spoil(text);
        }
        return text.toString();
    }

    private void spoil(StringBuilder text) {
        String letters = "WPB0123456789x";
        int at = upTo(text.length() - 1);
        switch (upTo(3)) {
            case 0:
                text.setLength(at);
                break;
            case 1:
                text.setCharAt(at, letters.charAt(upTo(letters.length() - 1)));
                break;
            case 2:
                text.append(random.nextBoolean() ? "P0P0P0" : "B10B20B31");
                break;
            default:
                text.append(letters.charAt(upTo(letters.length() - 1)));
        }
    }

    private void due(String call, long got, long want) {
        spent++;
        Check.due(call, got, want);
    }

    private void tell(String text) {
        due("wipe()", chain.wipe(), model.wipe());
        for (int at = 0; at < text.length(); at++) {
            due("write of " + text, chain.write(text.charAt(at)), model.write(text.charAt(at)));
        }
        due("fault() of " + text, chain.fault(), model.fault());
        due("night() of " + text, chain.night(), model.night());
    }

    private void play(int run) {
        tell(someNight());
        boolean isLong = run % LONG_RUN_EVERY == 0;
        for (int call = 0; call < (isLong ? LAST_CALL : CALLS) && spent < 420; call++) {
            String name = "run " + run + ", call " + call;
            int kind = random.nextInt(100);
            if (kind < 45) {
                act(name);
            } else if (kind < 60) {
                look(name);
            } else if (kind < 80) {
                ask(name);
            } else {
                chances(name);
            }
        }
        everything("run " + run + ", at its end");
        while (isLong && spent < LAST_CALL) {
            act("run " + run + ", call " + spent);
        }
    }

    private void act(String name) {
        int a = about(4), b = about(4);
        switch (random.nextInt(12)) {
            case 0:
            case 1:
                due(name + " change", chain.change(a, b), model.change(a, b));
                break;
            case 2:
                due(name + " mend", chain.mend(a), model.mend(a));
                break;
            case 3:
                due(name + " drop", chain.drop(a), model.drop(a));
                break;
            case 4:
                due(name + " undo", chain.undo(), model.undo());
                break;
            default:
                due(name + " beat", chain.beat(), model.beat());
        }
    }

    private void look(String name) {
        int a = about(4), what = about(4), about = about(13);
        switch (random.nextInt(5)) {
            case 0:
                due(name + " person", chain.person(a, what), model.person(a, what));
                break;
            case 1:
                due(name + " stand", chain.stand(a, what), model.stand(a, what));
                break;
            case 2:
                due(name + " bucket", chain.bucket(a, what), model.bucket(a, what));
                break;
            case 3:
                if (random.nextInt(10) == 0) {
                    tell(someNight());
                }
                break;
            default:
                due(name + " about", chain.about(about), model.about(about));
        }
    }

    private long someRow(int n) {
        long row = 0;
        for (int at = 0; at < n; at++) {
            int first = random.nextInt(12) == 0 ? upTo(9) : upTo(6);
            int second = first == 0 || first == 2 || first == 3 ? upTo(19) / 19 : first == 6 ? upTo(9) : upTo(4);
            int third = first == 0 ? upTo(19) / 19 : first >= 5 ? upTo(9) : upTo(4);
            row = 1000 * row + 100 * first + 10 * second + third;
        }
        return random.nextInt(40) == 0 ? random.nextLong() : row;
    }

    private void ask(String name) {
        int a = about(4), n = about(20), far = about(40), what = about(1), doings = about(4);
        boolean upper = random.nextBoolean();
        switch (random.nextInt(8)) {
            case 0:
                due(name + " later", chain.later(far, what), model.later(far, what));
                break;
            case 1:
                due(name + " out", chain.out(), model.out());
                break;
            case 2:
                due(name + " swap", chain.swap(n, what), model.swap(n, what));
                break;
            case 3:
                if (random.nextInt(8) == 0) {
                    due(name + " line", chain.line(n, what), model.line(n, what));
                }
                break;
            case 4:
                due(name + " share", chain.share(a, upper), model.share(a, upper));
                break;
            default:
                long row = someRow(Math.max(0, Math.min(4, doings)));
                due(name + " judge(" + doings + ", " + row + ")", chain.judge(doings, row), model.judge(doings, row));
        }
    }

    private void chances(String name) {
        int a = about(4), b = about(4), what = about(1), t = about(9), v = about(99), x = about(10), m = about(30);
        boolean upper = random.nextBoolean();
        switch (random.nextInt(10)) {
            case 0:
                due(name + " see", chain.see(t, v, what), model.see(t, v, what));
                break;
            case 1:
                if (random.nextInt(5) == 0) {
                    due(name + " unsee", chain.unsee(), model.unsee());
                }
                break;
            case 2:
                due(name + " fires", chain.fires(what), model.fires(what));
                break;
            case 3:
            case 4:
                due(name + " rests", chain.rests(a, b, what), model.rests(a, b, what));
                break;
            case 5:
            case 6:
                int pints = random.nextInt(3) == 0 ? v : upTo(30);
                due(name + " falls", chain.falls(pints, x, upper), model.falls(pints, x, upper));
                break;
            case 7:
                due(name + " nights", chain.nights(m), model.nights(m));
                break;
            case 8:
                due(name + " keep", chain.keep(what), model.keep(what));
                break;
            default:
                if (random.nextInt(3) == 0) {
                    due(name + " again", chain.again(what), model.again(what));
                } else {
                    long seed = random.nextLong();
                    due(name + " seed", chain.seed(seed), model.seed(seed));
                }
        }
    }

    private void everything(String name) {
        for (int what = 0; what <= 13; what++) {
            due(name + " about " + what, chain.about(what), model.about(what));
        }
        for (int number = 0; number < 5; number++) {
            due(name + " person", chain.person(number, 1), model.person(number, 1));
            due(name + " stand", chain.stand(number, 1), model.stand(number, 1));
            for (int what = 0; what < 5; what++) {
                due(name + " bucket", chain.bucket(number, what), model.bucket(number, what));
            }
        }
        due(name + " seed", chain.seed(0), model.seed(0));
    }
}
