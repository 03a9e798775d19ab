/** Counts the answers that are not as due, and types texts letter by letter. */
final class Due {
    static final long FAR = 4000000000000000000L;

    private final String test;
    private int wrong = 0;
    private int asked = 0;

    Due(String test) {
        this.test = test;
    }

    void is(String call, long got, long want) {
        asked++;
        if (got != want) {
            wrong++;
            System.out.println(test + ": " + call + " answered " + got + ", due is " + want);
        }
    }

    void is(String call, String got, String want) {
        asked++;
        if (!got.equals(want)) {
            wrong++;
            System.out.println(test + ": " + call + " answered '" + got + "', due is '" + want + "'");
        }
    }

    /** A refusal that is counted: the answer, and one more among the REFUSALS of its kind alone. */
    void refused(LettersThatPass x, String call, java.util.function.LongSupplier asking, int refusal) {
        refusedAs(x, call, asking, refusal, refusal);
    }

    /** Likewise of longs. */
    void refusedFar(LettersThatPass x, String call, java.util.function.LongSupplier asking, int refusal) {
        refusedAs(x, call, asking, refusal, FAR - refusal);
    }

    private void refusedAs(LettersThatPass x, String call, java.util.function.LongSupplier asking, int refusal,
            long want) {
        int[] before = state(x);
        is(call, asking.getAsLong(), want);
        int[] after = state(x);
        for (int k = 0; k < before.length; k++) {
            boolean counted = k == STATES + -refusal - 1;
            is(call + ": what it counted at " + k, after[k] - before[k], counted ? 1 : 0);
        }
    }

    private static final int STATES = 5;

    private static int[] state(LettersThatPass x) {
        int[] all = new int[STATES + 6];
        for (int k = 0; k < STATES; k++) {
            all[k] = x.count(k);
        }
        for (int k = 0; k < 6; k++) {
            all[STATES + k] = x.count(11 + k);
        }
        return all;
    }

    void end() {
        System.out.println(test + ": " + asked + " answers, " + wrong + " of them not as due");
        if (wrong != 0) {
            System.exit(1);
        }
    }

    static void type(LettersThatPass x, String text) {
        for (int k = 0; k < text.length(); k++) {
            x.letter(text.charAt(k));
        }
    }

    static int word(LettersThatPass x, String text) {
        type(x, text);
        return x.word();
    }

    static int rules(LettersThatPass x, String text) {
        type(x, text);
        return x.rules();
    }

    /** An object with RULES (none if empty) and WORDS. */
    static LettersThatPass with(String rules, String... words) {
        LettersThatPass x = new LettersThatPass();
        if (!rules.isEmpty()) {
            rules(x, rules);
        }
        for (String word : words) {
            word(x, word);
        }
        return x;
    }

    static String told(LettersThatPass x, int word) {
        return spell(i -> x.at(word, i));
    }

    static String least(LettersThatPass x, int word, int which) {
        return spell(i -> x.least(word, i, which));
    }

    /** LETTERS as a .. f, up to the first -9. */
    static String spell(java.util.function.IntUnaryOperator at) {
        StringBuilder text = new StringBuilder();
        for (int i = 0; i < 50; i++) {
            int letter = at.applyAsInt(i);
            if (letter == -9) {
                return text.toString();
            }
            text.append(letter < 0 || letter > 5 ? "?" : String.valueOf((char) ('a' + letter)));
        }
        return text.toString();
    }
}
