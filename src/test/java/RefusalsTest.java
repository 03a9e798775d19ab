import java.util.ArrayList;
import java.util.List;

/**
 * Every call that can be refused, with all its arguments too small, right and too large at once, in four states: it
 * answers the first refusal that fits in the document's order, that one is counted (or not, as the document says),
 * and nothing else changes. A call that only asks changes nothing if it isn't refused either.
 */
public final class RefusalsTest {
    private static final Due DUE = new Due("RefusalsTest");
    private static final int MIN = Integer.MIN_VALUE;
    private static final int MAX = Integer.MAX_VALUE;

    private static final int[] WORD = {MIN, -1, 0, 1, 2, 3, 4, 5, 6, MAX};
    private static final int[] LETTER = {MIN, -1, 0, 1, 4, 5, 6, MAX};
    private static final int[] PLACE = {MIN, -2, -1, 0, 1, 13, 14, MAX};
    private static final int[] WHAT = {MIN, -1, 0, 1, 2, MAX};
    private static final int[] LIST = {MIN, -1, 0, 1, 2, 3, MAX};
    private static final int[] LIST_PLACE = {MIN, -1, 0, 1, 2, 3, 4, 39, 40, MAX - 1, MAX};

    interface Asking {
        long of(LettersThatPass x, int[] a);
    }

    interface Fits {
        boolean of(State s, int[] a);
    }

    interface Making {
        LettersThatPass make();
    }

    /** What the document's refusals look at. */
    private static final class State {
        private final String name;
        private final Making making;
        private final int[] lengths;
        private final int[][] lists;
        private final int typed;
        private final int undone;
        private final boolean image;
        private final String untouched;

        State(String name, Making making, int[] lengths, int[][] lists, int typed, int undone, boolean image) {
            this.name = name;
            this.making = making;
            this.lengths = lengths;
            this.lists = lists;
            this.typed = typed;
            this.undone = undone;
            this.image = image;
            this.untouched = Readout.of(making.make());
        }

        boolean isFull() {
            return lengths.length == 5;
        }
    }

    private static final int[] NUMBERS = {1, 6, 0, -7};
    private static final int[][] SOME_LISTS = {NUMBERS, {}, null};
    private static final State[] STATES = {
        new State("new", LettersThatPass::new, new int[0], new int[3][], 0, 0, false),
        new State("four WORDS", RefusalsTest::fourWords, new int[] {0, 1, 7, 8}, SOME_LISTS, 5, 8, true),
        new State("five WORDS", RefusalsTest::fiveWords, new int[] {0, 1, 7, 8, 14}, SOME_LISTS, 5, 8, true),
        new State("72 letters", RefusalsTest::fullLetters, new int[] {0, 1, 7, 8}, SOME_LISTS, 72, 8, true)};

    private static LettersThatPass prepared() {
        LettersThatPass x = Due.with("ab,<ef", "fe", "a2");
        x.image();
        x.drop();
        x.drop();
        x.list(0, NUMBERS.length);
        for (int i = 0; i < NUMBERS.length; i++) {
            x.put(0, i, NUMBERS[i]);
        }
        x.list(1, 0);
        for (int a = 1; a < 5; a++) {
            x.passes(a, a + 1);
            x.ranks(a, a - 1);
        }
        for (String word : new String[] {"", "b", "bacdefa", "abcdefab"}) {
            Due.word(x, word);
        }
        return x;
    }

    private static LettersThatPass fourWords() {
        LettersThatPass x = prepared();
        Due.type(x, "a(b)2");
        return x;
    }

    private static LettersThatPass fiveWords() {
        LettersThatPass x = prepared();
        Due.word(x, "(fbaedcf)2");
        Due.type(x, "a(b)2");
        return x;
    }

    private static LettersThatPass fullLetters() {
        LettersThatPass x = prepared();
        Due.type(x, "a0".repeat(29) + "abcdefabcdefab");
        return x;
    }

    /** One promise: its arguments, and its refusals in the order in which the document tells them. */
    private static final class Case {
        private final String name;
        private final Asking asking;
        private int[][] values = new int[0][];
        private boolean far = false;
        private boolean asksOnly = true;
        private final List<Integer> numbers = new ArrayList<>();
        private final List<Fits> conditions = new ArrayList<>();

        Case(String name, Asking asking) {
            this.name = name;
            this.asking = asking;
        }

        Case takes(int[]... sets) {
            values = sets;
            return this;
        }

        Case ofLongs() {
            far = true;
            return this;
        }

        Case thatChanges() {
            asksOnly = false;
            return this;
        }

        Case refuses(int number, Fits condition) {
            numbers.add(number);
            conditions.add(condition);
            return this;
        }

        void run() {
            int[] met = new int[numbers.size()];
            for (State state : STATES) {
                runIn(state, new int[values.length], 0, met);
            }
            for (int k = 0; k < met.length; k++) {
                DUE.is(name + ": tested at all: " + numbers.get(k), met[k] > 0 ? 1 : 0, 1);
            }
        }

        private void runIn(State state, int[] a, int given, int[] met) {
            if (given < a.length) {
                for (int value : values[given]) {
                    a[given] = value;
                    runIn(state, a, given + 1, met);
                }
                return;
            }
            int first = 0;
            while (first < conditions.size() && !conditions.get(first).of(state, a)) {
                first++;
            }
            if (first < met.length) {
                met[first]++;
                ask(state, a, numbers.get(first));
            } else {
                ask(state, a, 0);
            }
        }

        private String told(State state, int[] a) {
            StringBuilder text = new StringBuilder(state.name).append(": ").append(name);
            for (int value : a) {
                text.append(' ').append(value);
            }
            return text.toString();
        }

        private void ask(State state, int[] a, int refusal) {
            LettersThatPass x = state.making.make();
            long got = asking.of(x, a);
            String call = told(state, a);
            if (refusal != 0) {
                DUE.is(call, got, far ? Due.FAR - refusal : refusal);
            } else {
                DUE.is(call + " isn't refused, but answered " + got, isRefusal(got) ? 1 : 0, 0);
            }
            int[] counted = Readout.refusals(x);
            for (int k = 0; k < counted.length; k++) {
                DUE.is(call + ": REFUSALS " + (-1 - k), counted[k], refusal == -1 - k ? 1 : 0);
            }
            if (refusal != 0 || asksOnly) {
                DUE.is(call + ": what changed", Readout.of(x), state.untouched);
            }
        }

        private boolean isRefusal(long got) {
            return far ? got >= Due.FAR : got < 0 && got != -9;
        }
    }

    private static Fits noWord(int k) {
        return (s, a) -> a[k] < 0 || a[k] >= s.lengths.length;
    }

    private static Fits noLetter(int k) {
        return (s, a) -> a[k] < 0 || a[k] > 5;
    }

    private static Fits noList(int k) {
        return (s, a) -> a[k] < 0 || a[k] > 2;
    }

    private static Fits below(int k, int least) {
        return (s, a) -> a[k] < least;
    }

    private static Fits above(int k, int greatest) {
        return (s, a) -> a[k] > greatest;
    }

    private static Fits other(int k) {
        return (s, a) -> a[k] != 0 && a[k] != 1;
    }

    private static Fits longer(int k, int most) {
        return (s, a) -> s.lengths[a[k]] > most;
    }

    private static Fits shorter(int k, int least) {
        return (s, a) -> s.lengths[a[k]] < least;
    }

    private static Fits missing(int k) {
        return (s, a) -> s.lists[a[k]] == null;
    }

    private static Fits noPlace(int list, int i) {
        return (s, a) -> a[i] < 0 || a[i] >= s.lists[a[list]].length;
    }

    private static Fits full() {
        return (s, a) -> s.isFull();
    }

    private static Fits either(Fits one, Fits next) {
        return (s, a) -> one.of(s, a) || next.of(s, a);
    }

    /** Some of n places from i on aren't there. */
    private static boolean lacks(int[] list, int i, int n) {
        for (long place = i; place < (long) i + n; place++) {
            if (place < 0 || place >= list.length) {
                return true;
            }
        }
        return false;
    }

    private static boolean notAllLetters(int[] list, int i, int n) {
        for (int k = 0; k < n; k++) {
            if (list[i + k] < 0 || list[i + k] > 5) {
                return true;
            }
        }
        return false;
    }

    public static void main(String[] args) {
        lettersAndWords();
        blocksAndLeastWords();
        beginningsAndProducts();
        turnedAndCounted();
        listsOfNumbers();
        theImage();
        faults();
        DUE.end();
    }

    /** A FAULT takes the letters away, and nothing else. */
    private static void faults() {
        LettersThatPass full = prepared();
        Due.word(full, "abc");
        String four = Readout.of(prepared());
        String five = Readout.of(full);
        String[] texts = {"?", "a?", "(", "(a", "((((((", "a9b6", ")", "7", "a0".repeat(35) + "(a"};
        int[] dues = {-1000, -1001, -1001, -1002, -1005, -2000, -1000, -1000, -1072};
        for (int k = 0; k < texts.length; k++) {
            LettersThatPass x = prepared();
            fault(x, "word " + texts[k], Due.word(x, texts[k]), dues[k], four);
            LettersThatPass y = prepared();
            Due.word(y, "abc");
            fault(y, "word " + texts[k] + ", five there are", Due.word(y, texts[k]), dues[k], five);
        }
        LettersThatPass z = prepared();
        Due.word(z, "abc");
        fault(z, "word, five there are", Due.word(z, "ab"), -2000, five);
        String[] rules = {"", "?", "ab,", "ab,<cd,ef,aa", "<", "ab,".repeat(24)};
        int[] places = {0, 0, 3, 11, 1, 72};
        for (int k = 0; k < rules.length; k++) {
            LettersThatPass x = prepared();
            fault(x, "rules " + rules[k], Due.rules(x, rules[k]), -1000 - places[k], four);
        }
    }

    private static void fault(LettersThatPass x, String call, long got, long want, String untouched) {
        DUE.is(call, got, want);
        for (int counted : Readout.refusals(x)) {
            DUE.is(call + ": not counted", counted, 0);
        }
        DUE.is(call + ": what changed", Readout.of(x), untouched);
    }

    private static void lettersAndWords() {
        new Case("letter", (x, a) -> x.letter(a[0])).takes(new int[] {MIN, -1, 0, 97, 255, 256, MAX}).thatChanges()
            .refuses(-4, below(0, 0)).refuses(-6, either(above(0, 255), (s, a) -> s.typed == 72)).run();
        Fits notTwo = either(either(noLetter(0), noLetter(1)), (s, a) -> a[0] == a[1]);
        new Case("passes", (x, a) -> x.passes(a[0], a[1])).takes(LETTER, LETTER).thatChanges().refuses(-1, notTwo).run();
        new Case("ranks", (x, a) -> x.ranks(a[0], a[1])).takes(LETTER, LETTER).thatChanges().refuses(-1, notTwo).run();
        new Case("of", (x, a) -> x.of(a[0], a[1])).takes(LETTER, WHAT)
            .refuses(-1, noLetter(0)).refuses(-2, other(1)).run();
        new Case("at", (x, a) -> x.at(a[0], a[1])).takes(WORD, PLACE)
            .refuses(-1, noWord(0)).refuses(-4, below(1, -1)).run();
        new Case("drop", (x, a) -> x.drop()).thatChanges().refuses(-3, (s, a) -> s.lengths.length == 0).run();
    }

    private static void blocksAndLeastWords() {
        Fits noTwoWords = either(noWord(0), noWord(1));
        new Case("alike", (x, a) -> x.alike(a[0], a[1])).takes(WORD, WORD).refuses(-1, noTwoWords).run();
        new Case("blocks", (x, a) -> x.blocks(a[0], a[1])).takes(WORD, PLACE)
            .refuses(-1, noWord(0)).refuses(-4, below(1, -1)).run();
        new Case("least", (x, a) -> x.least(a[0], a[1], a[2])).takes(WORD, PLACE, WHAT)
            .refuses(-1, noWord(0)).refuses(-4, below(1, 0)).refuses(-2, other(2)).run();
        new Case("copies", (x, a) -> x.copies(a[0])).takes(WORD).ofLongs().refuses(-1, noWord(0)).run();
        new Case("seen", (x, a) -> x.seen(a[0], a[1], a[2], a[3])).takes(WORD, LETTER, LETTER, PLACE)
            .refuses(-1, either(noWord(0), either(noLetter(1), noLetter(2)))).refuses(-4, below(3, 0)).run();
        new Case("spread", (x, a) -> x.spread(a[0], a[1], a[2], a[3])).takes(WORD, LETTER, PLACE, WHAT)
            .refuses(-1, either(noWord(0), noLetter(1))).refuses(-4, below(2, 0)).refuses(-2, other(3)).run();
        new Case("odds", (x, a) -> x.odds(a[0], a[1])).takes(WORD, WHAT).ofLongs()
            .refuses(-1, noWord(0)).refuses(-2, other(1)).run();
    }

    private static void beginningsAndProducts() {
        Fits noTwoWords = either(noWord(0), noWord(1));
        new Case("begins", (x, a) -> x.begins(a[0], a[1], a[2])).takes(WORD, WORD, PLACE)
            .refuses(-1, noTwoWords).refuses(-4, below(2, -1)).run();
        new Case("common", (x, a) -> x.common(a[0], a[1], a[2])).takes(WORD, WORD, PLACE)
            .refuses(-1, noTwoWords).refuses(-4, below(2, -1)).run();
        new Case("product", (x, a) -> x.product(a[0], a[1])).takes(WORD, WORD).thatChanges().refuses(-1, noTwoWords)
            .refuses(-6, either(full(), (s, a) -> s.lengths[a[0]] + s.lengths[a[1]] > 14)).run();
        new Case("power", (x, a) -> x.power(a[0], a[1])).thatChanges()
            .takes(WORD, new int[] {MIN, -1, 0, 1, 2, 3, 14, 15, 536870912, 613566757, MAX})
            .refuses(-1, noWord(0)).refuses(-4, below(1, 0))
            .refuses(-6, either(full(), (s, a) -> (long) s.lengths[a[0]] * a[1] > 14)).run();
        new Case("changes", (x, a) -> x.changes(a[0], a[1])).takes(WORD, WORD).refuses(-1, noTwoWords).run();
        new Case("root", (x, a) -> x.root(a[0], a[1])).takes(WORD, PLACE)
            .refuses(-1, noWord(0)).refuses(-4, below(1, -1)).refuses(-3, shorter(0, 1)).run();
        new Case("parts", (x, a) -> x.parts(a[0], a[1])).takes(WORD, new int[] {MIN, -2, -1, 0, 5, 6, MAX})
            .refuses(-1, either(noWord(0), either(below(1, -1), above(1, 5)))).run();
    }

    private static void turnedAndCounted() {
        new Case("turned", (x, a) -> x.turned(a[0])).takes(WORD)
            .refuses(-1, noWord(0)).refuses(-6, longer(0, 7)).run();
        new Case("turn", (x, a) -> x.turn(a[0], a[1], a[2])).takes(WORD, PLACE, PLACE)
            .refuses(-1, noWord(0)).refuses(-4, either(below(1, 0), below(2, 0))).refuses(-6, longer(0, 7)).run();
        new Case("apart", (x, a) -> x.apart(a[0], a[1])).takes(WORD, WORD)
            .refuses(-1, either(noWord(0), noWord(1))).refuses(-6, either(longer(0, 7), longer(1, 7))).run();
        int[] counted = {MIN, -1, 0, 1, 6, 7, 12, 13, MAX};
        new Case("unlike", (x, a) -> x.unlike(a[0], a[1])).takes(counted, counted).ofLongs()
            .refuses(-4, either(below(0, 0), below(1, 1))).refuses(-6, either(above(0, 12), above(1, 6))).run();
        new Case("lots", (x, a) -> x.lots(a[0], a[1], a[2], a[3]))
            .takes(WORD, new int[] {MIN, -1, 0, 1, 60, 61, MAX}, new int[] {MIN, 0, MAX}, WHAT)
            .refuses(-1, noWord(0)).refuses(-4, below(1, 1)).refuses(-6, above(1, 60)).refuses(-2, other(3))
            .refuses(-3, shorter(0, 2)).run();
        new Case("free", (x, a) -> x.free()).run();
    }

    private static void listsOfNumbers() {
        new Case("list", (x, a) -> x.list(a[0], a[1])).takes(LIST, new int[] {MIN, -1, 0, 1, 40, 41, MAX}).thatChanges()
            .refuses(-1, noList(0)).refuses(-6, above(1, 40)).refuses(-14, below(1, 0)).run();
        new Case("put", (x, a) -> x.put(a[0], a[1], a[2])).takes(LIST, LIST_PLACE, new int[] {MIN, -1, 0, MAX})
            .thatChanges().refuses(-1, noList(0)).refuses(-11, missing(0)).refuses(-13, noPlace(0, 1)).run();
        new Case("look", (x, a) -> x.look(a[0], a[1])).takes(LIST, LIST_PLACE).ofLongs()
            .refuses(-1, noList(0)).refuses(-11, missing(0)).refuses(-13, noPlace(0, 1)).run();
        new Case("from", (x, a) -> x.from(a[0], a[1], a[2])).thatChanges()
            .takes(LIST, LIST_PLACE, new int[] {MIN, -1, 0, 1, 2, 3, 4, 5, 14, 15, MAX})
            .refuses(-1, noList(0)).refuses(-4, below(2, 0)).refuses(-6, either(above(2, 14), full()))
            .refuses(-11, missing(0)).refuses(-13, (s, a) -> lacks(s.lists[a[0]], a[1], a[2]))
            .refuses(-3, (s, a) -> notAllLetters(s.lists[a[0]], a[1], a[2])).run();
        new Case("lays", (x, a) -> x.lays(a[0], a[1], a[2])).takes(LIST, LIST_PLACE, WORD).thatChanges()
            .refuses(-1, either(noList(0), noWord(2))).refuses(-11, missing(0))
            .refuses(-13, (s, a) -> lacks(s.lists[a[0]], a[1], s.lengths[a[2]])).run();
        new Case("judge", (x, a) -> x.judge(a[0], a[1])).takes(LIST, WORD)
            .refuses(-1, either(noList(0), noWord(1))).refuses(-11, missing(0)).run();
    }

    private static void theImage() {
        new Case("undo", (x, a) -> x.undo()).thatChanges().refuses(-3, (s, a) -> s.undone == 0).run();
        new Case("on", (x, a) -> x.on()).thatChanges().refuses(-3, (s, a) -> !s.image).run();
        new Case("count", (x, a) -> x.count(a[0])).takes(new int[] {MIN, -1, 0, 4, 5, 10, 11, 16, 17, MAX}).run();
    }
}
