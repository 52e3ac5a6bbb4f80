/** What the tests share: told nights, and a count of answers that are not as due. */
final class Check {
    private static int asked = 0;
    private static int wrong = 0;
    private static String sentence = "";

    private Check() {
    }

    /** The answers that follow are due by this sentence; part is "Terms" or "Promise 7". */
    static void says(String part, String words) {
        sentence = part + ", \"" + words + "\": ";
        if (Doc.isThere()) {
            due("the document has these words", Doc.part(part).contains(words) ? 1 : 0, 1);
        }
    }

    static void due(String call, long got, long want) {
        asked++;
        if (got != want) {
            wrong++;
            System.out.println(sentence + call + " answered " + got + ", due is " + want);
        }
    }

    static void dueFraction(String call, int upper, int lower, int wantUpper, int wantLower) {
        due(call + " above", upper, wantUpper);
        due(call + " below", lower, wantLower);
    }

    static void tell(BucketChain chain, String text) {
        chain.wipe();
        for (int at = 0; at < text.length(); at++) {
            chain.write(text.charAt(at));
        }
    }

    static BucketChain told(String text) {
        BucketChain chain = new BucketChain();
        tell(chain, text);
        return chain;
    }

    static BucketChain night(String text) {
        BucketChain chain = told(text);
        if (chain.night() < 0) {
            due("night() of " + text, BucketChain.LATE, 0);
        }
        return chain;
    }

    /** A night some beats on. */
    static BucketChain night(String text, int beats) {
        BucketChain chain = night(text);
        beats(chain, beats);
        return chain;
    }

    static void beats(BucketChain chain, int n) {
        for (int beat = 0; beat < n; beat++) {
            chain.beat();
        }
    }

    /** All that can be looked at, as one text, to tell whether a call changed anything: 61 calls. */
    static String picture(BucketChain chain) {
        StringBuilder all = new StringBuilder();
        for (int what = 0; what <= 13; what++) {
            all.append(chain.about(what)).append(' ');
        }
        for (int number = 0; number < 5; number++) {
            for (int what = 0; what <= 1; what++) {
                all.append(chain.person(number, what)).append(' ').append(chain.stand(number, what)).append(' ');
            }
            for (int what = 0; what <= 4; what++) {
                all.append(chain.bucket(number, what)).append(' ');
            }
        }
        long seed = chain.seed(0);
        chain.seed(seed);
        return all.append(seed).toString();
    }

    /** What an act can change, in 25 calls, so that a whole row of acts can be looked at in one object's 512. */
    static String scene(BucketChain chain) {
        StringBuilder all = new StringBuilder();
        for (int what : new int[] {2, 5, 6, 7, 8, 9, 10, 11}) {
            all.append(chain.about(what)).append(' ');
        }
        for (int person = 0; person < 5; person++) {
            all.append(chain.person(person, 1)).append(' ');
        }
        for (int bucket = 0; bucket < 4; bucket++) {
            for (int what = 2; what <= 4; what++) {
                all.append(chain.bucket(bucket, what)).append(' ');
            }
        }
        return all.toString();
    }

    static void dueSame(String call, String got, String want) {
        due(call + " changes nothing:\n  " + want + "\n  " + got + "\n ", got.equals(want) ? 1 : 0, 1);
    }

    static void end() {
        System.out.println(asked + " answers, " + wrong + " not as due");
        if (wrong != 0) {
            System.exit(1);
        }
    }
}
