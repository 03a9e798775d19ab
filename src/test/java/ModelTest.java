import java.util.Random;

/** Random runs of calls, each answer compared with the literal model's; the seeds are fixed. */
public final class ModelTest {
    private static final Due DUE = new Due("ModelTest");
    private static final int RUNS = 2000;
    /** An object is good for 512 calls, and a step has fewer than 190. */
    private static final int CALLS = 512 - 190;
    private static final int LONGEST_TEXT = 90;
    private static final int[] EDGES = {Integer.MIN_VALUE, Integer.MIN_VALUE + 1, -14, -2, -1, 0, 1, 2, 3, 4, 5, 6, 7, 8,
        12, 13, 14, 15, 39, 40, 41, 59, 60, 61, 72, 255, 256, 613566757, Integer.MAX_VALUE - 1, Integer.MAX_VALUE};

    private final Random random;
    private final int run;
    private final LettersThatPass x = new LettersThatPass();
    private final Model m = new Model();
    private int calls = 0;
    private final int longest;
    private final int lettersUsed;

    private ModelTest(int run) {
        this.run = run;
        this.random = new Random(run);
        this.longest = run % 3 == 0 ? 14 : run % 3 == 1 ? 7 : 9;
        this.lettersUsed = 2 + random.nextInt(5);
    }

    public static void main(String[] args) {
        for (int run = 0; run < RUNS; run++) {
            ModelTest test = new ModelTest(run);
            while (test.calls < CALLS) {
                test.step();
            }
        }
        DUE.end();
    }

    private void same(String call, long got, long want) {
        calls++;
        if (want != Model.SKIPPED) {
            DUE.is("run " + run + ", call " + calls + ": " + call, got, want);
        }
    }

    /** Mostly a number from low to high, now and then an edge. */
    private int near(int low, int high) {
        return random.nextInt(25) == 0 ? EDGES[random.nextInt(EDGES.length)] : low + random.nextInt(high - low + 1);
    }

    private int aWord() {
        int there = m.words();
        return there == 0 ? near(-1, 1) : near(0, random.nextInt(12) == 0 ? there : there - 1);
    }

    private int aLetter() {
        return near(random.nextInt(15) == 0 ? -1 : 0, random.nextInt(15) == 0 ? 6 : 5);
    }

    private int aPlace() {
        return near(-1, 14);
    }

    private int aChoice() {
        return near(0, random.nextInt(10) == 0 ? 2 : 1);
    }

    private int aList() {
        return near(0, random.nextInt(10) == 0 ? 3 : 2);
    }

    private void type(String text) {
        for (int k = 0; k < text.length() && k < LONGEST_TEXT; k++) {
            char c = text.charAt(k);
            same("letter " + c, x.letter(c), m.letter(c));
        }
    }

    private String oneOf(String signs) {
        return String.valueOf(signs.charAt(random.nextInt(signs.length())));
    }

    private String someLetter() {
        return String.valueOf((char) ('a' + random.nextInt(lettersUsed)));
    }

    private String someItems(int depth) {
        StringBuilder text = new StringBuilder();
        int items = random.nextInt(depth == 0 ? longest : 4);
        for (int k = 0; k < items; k++) {
            if (depth < 6 && random.nextInt(8) == 0) {
                text.append('(').append(someItems(depth + 1)).append(')');
            } else {
                text.append(someLetter());
            }
            if (random.nextInt(6) == 0) {
                text.append(random.nextInt(random.nextInt(3) == 0 ? 10 : 4));
            }
        }
        return text.toString();
    }

    private String someRules() {
        StringBuilder text = new StringBuilder();
        int rules = 1 + random.nextInt(7);
        for (int k = 0; k < rules; k++) {
            text.append(k > 0 ? "," : "").append(random.nextInt(4) == 0 ? "<" : "");
            String first = oneOf("abcdef");
            String next = first;
            while (next.equals(first)) {
                next = oneOf("abcdef");
            }
            text.append(first).append(next);
        }
        return text.toString();
    }

    private String broken(String text) {
        if (random.nextInt(6) != 0) {
            return text;
        }
        int place = random.nextInt(text.length() + 1);
        String put = random.nextInt(3) == 0 ? "" : oneOf("abcdef(((((()))0123456789,,<<g `:/A");
        int behind = Math.min(text.length(), place + random.nextInt(2));
        return text.substring(0, place) + put + text.substring(behind);
    }

    private void step() {
        switch (random.nextInt(10)) {
            case 0 -> stepWords();
            case 1 -> stepLaws();
            case 2 -> stepMaking();
            case 3 -> stepLists();
            case 4 -> stepImage();
            case 5, 6 -> stepBlocks();
            case 7, 8 -> stepBeginnings();
            default -> stepTurned();
        }
    }

    private void stepWords() {
        if (m.words() == 5 || random.nextInt(6) == 0) {
            same("drop", x.drop(), m.drop());
        }
        if (random.nextInt(20) == 0) {
            int c = near(0, 255);
            same("letter " + c, x.letter(c), m.letter(c));
        }
        if (random.nextInt(30) == 0) {
            type("ab".repeat(40));
        }
        type(broken(someItems(0)));
        if (random.nextInt(20) > 0) {
            same("word", x.word(), m.word());
        }
    }

    private void stepLaws() {
        int a = aLetter();
        int b = aLetter();
        switch (random.nextInt(5)) {
            case 0 -> same("passes " + a + " " + b, x.passes(a, b), m.passes(a, b));
            case 1 -> same("ranks " + a + " " + b, x.ranks(a, b), m.ranks(a, b));
            case 2 -> {
                int what = aChoice();
                same("of " + a + " " + what, x.of(a, what), m.of(a, what));
            }
            case 3 -> {
                type(broken(someRules()));
                same("rules", x.rules(), m.rules());
            }
            default -> same("undo", x.undo(), m.undo());
        }
    }

    private void stepMaking() {
        int u = aWord();
        int v = aWord();
        int n = near(0, 3);
        if (m.words() == 5) {
            same("drop", x.drop(), m.drop());
        }
        if (random.nextBoolean()) {
            same("product " + u + " " + v, x.product(u, v), m.product(u, v));
        } else {
            same("power " + u + " " + n, x.power(u, n), m.power(u, n));
        }
    }

    private void stepLists() {
        int list = aList();
        int i = near(0, 10);
        int word = aWord();
        switch (random.nextInt(8)) {
            case 0 -> {
                int n = near(0, random.nextBoolean() ? 40 : 6);
                same("list " + list + " " + n, x.list(list, n), m.list(list, n));
            }
            case 1, 2 -> {
                int v = near(-1, 6);
                same("put " + list + " " + i + " " + v, x.put(list, i, v), m.put(list, i, v));
            }
            case 3 -> same("look " + list + " " + i, x.look(list, i), m.look(list, i));
            case 4 -> {
                int n = random.nextInt(6) == 0 ? 0 : near(0, 14);
                same("from " + list + " " + i + " " + n, x.from(list, i, n), m.from(list, i, n));
            }
            case 5, 6 -> same("lays " + list + " " + i + " " + word, x.lays(list, i, word), m.lays(list, i, word));
            default -> same("judge " + list + " " + word, x.judge(list, word), m.judge(list, word));
        }
    }

    private void stepImage() {
        switch (random.nextInt(6)) {
            case 0 -> same("image", x.image(), m.image());
            case 1 -> same("on", x.on(), m.on());
            case 2 -> same("free", x.free(), m.free());
            default -> {
                int what = near(-1, 18);
                same("count " + what, x.count(what), m.count(what));
            }
        }
    }

    private void stepBlocks() {
        int word = aWord();
        int other = aWord();
        int i = aPlace();
        int a = aLetter();
        int b = aLetter();
        int what = aChoice();
        switch (random.nextInt(8)) {
            case 0 -> same("at " + word + " " + i, x.at(word, i), m.at(word, i));
            case 1 -> same("alike " + word + " " + other, x.alike(word, other), m.alike(word, other));
            case 2 -> same("blocks " + word + " " + i, x.blocks(word, i), m.blocks(word, i));
            case 3 -> same("least " + word + " " + i + " " + what, x.least(word, i, what), m.least(word, i, what));
            case 4 -> same("copies " + word, x.copies(word), m.copies(word));
            case 5 -> same("seen " + word + " " + a + " " + b + " " + i, x.seen(word, a, b, i), m.seen(word, a, b, i));
            case 6 -> {
                int n = near(0, 3);
                String call = "spread " + word + " " + a + " " + n + " " + what;
                same(call, x.spread(word, a, n, what), m.spread(word, a, n, what));
            }
            default -> same("odds " + word + " " + what, x.odds(word, what), m.odds(word, what));
        }
    }

    private void stepBeginnings() {
        int u = aWord();
        int v = aWord();
        int i = aPlace();
        switch (random.nextInt(5)) {
            case 0 -> same("begins " + u + " " + v + " " + i, x.begins(u, v, i), m.begins(u, v, i));
            case 1 -> same("common " + u + " " + v + " " + i, x.common(u, v, i), m.common(u, v, i));
            case 2 -> same("changes " + u + " " + v, x.changes(u, v), m.changes(u, v));
            case 3 -> same("root " + u + " " + i, x.root(u, i), m.root(u, i));
            default -> {
                int a = near(-1, 5);
                same("parts " + u + " " + a, x.parts(u, a), m.parts(u, a));
            }
        }
    }

    private void stepTurned() {
        int u = aWord();
        int v = aWord();
        int k = near(0, 8);
        int i = near(0, 7);
        switch (random.nextInt(5)) {
            case 0 -> same("turned " + u, x.turned(u), m.turned(u));
            case 1 -> same("turn " + u + " " + k + " " + i, x.turn(u, k, i), m.turn(u, k, i));
            case 2 -> same("apart " + u + " " + v, x.apart(u, v), m.apart(u, v));
            case 3 -> {
                int n = near(0, random.nextInt(6) == 0 ? 13 : 5);
                int letters = near(1, 6);
                same("unlike " + n + " " + letters, x.unlike(n, letters), m.unlike(n, letters));
            }
            default -> {
                int n = near(1, 60);
                int z = random.nextBoolean() ? random.nextInt() : near(-3, 3);
                int what = aChoice();
                String call = "lots " + u + " " + n + " " + z + " " + what;
                same(call, x.lots(u, n, z, what), m.lots(u, n, z, what));
            }
        }
    }
}
