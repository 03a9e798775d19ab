/** Each sentence of the promises 1 to 39, at its edges; that none is left out is tested against the document. */
public final class PromisesTest {
    private static final Sentences DOC = new Sentences("PromisesTest");
    private static final String ALL_PASS = "ab,ac,ad,ae,af,bc,bd,be,bf,cd,ce,cf,de,df,ef";
    private static final int MIN = Integer.MIN_VALUE;
    private static final int MAX = Integer.MAX_VALUE;
    private static final int[] NO_LETTERS = {MIN, -1, 6, MAX};
    private static final int[] NO_LISTS = {MIN, -1, 3, MAX};
    private static final int[] NO_WHATS = {MIN, -1, 2, MAX};

    public static void main(String[] args) {
        lettersAndWords();
        blocksAndLeastWords();
        beginningsAndProducts();
        turnedAndCounted();
        listsOfNumbers();
        theImage();
        for (int number = 1; number <= 39; number++) {
            DOC.whole("Promise " + number);
        }
        sectionsAreKnown();
        DOC.end();
    }

    /** A section more would be one that no test knows; what isn't promised has none. */
    private static void sectionsAreKnown() {
        for (String title : DOC.titles()) {
            boolean known = title.matches("# LettersThatPass|What it is|The public face|Terms|Promise \\d+|Not promised");
            DOC.is("a section that is known: " + title, known ? 1 : 0, 1);
        }
    }

    private static void lettersAndWords() {
        newObject();
        letter();
        passes();
        ranks();
        of();
        rules();
        word();
        at();
        drop();
    }

    private static void blocksAndLeastWords() {
        alike();
        blocks();
        least();
        copies();
        seen();
        spread();
        odds();
    }

    private static void beginningsAndProducts() {
        begins();
        common();
        product();
        power();
        changes();
        root();
        parts();
    }

    private static void turnedAndCounted() {
        turned();
        turn();
        apart();
        unlike();
        free();
        lots();
    }

    private static void listsOfNumbers() {
        list();
        put();
        look();
        from();
        lays();
        judge();
    }

    private static void theImage() {
        undo();
        image();
        on();
        count();
    }

    /** Numbers that no WORD has, if there are so many. */
    private static int[] noWords(int there) {
        return new int[] {MIN, -1, there, 5, MAX};
    }

    private static void newObject() {
        DOC.says("Promise 1", "No PASS, RANKS as told, no WORDS.");
        LettersThatPass x = new LettersThatPass();
        for (int a = 0; a < 6; a++) {
            DOC.is("RANK of " + a, x.of(a, 0), a);
            DOC.is("PASSES " + a, x.of(a, 1), 0);
        }
        for (int what = 0; what <= 4; what++) {
            DOC.is("count " + what, x.count(what), 0);
        }
        for (int what = 11; what <= 16; what++) {
            DOC.is("count " + what, x.count(what), 0);
        }
        for (int list = 0; list < 3; list++) {
            DOC.is("LIST " + list, x.look(list, 0), Due.FAR + 11);
        }
        DOC.is("no WORD 0", x.at(0, -1), -1);
        DOC.is("none to go", x.drop(), -3);
        DOC.is("none to be UNDONE", x.undo(), -3);
        DOC.is("no IMAGE", x.on(), -3);
        DOC.is("no letters", x.word(), 0);
        DOC.is("no LETTERS", x.at(0, -1), 0);
        LettersThatPass y = new LettersThatPass();
        DOC.is("another object has nothing of it", y.count(0) + y.count(11) + y.count(13), 0);
    }

    private static void letter() {
        DOC.says("Promise 2", "A letter (0 .. 255) comes: how many there are.");
        LettersThatPass x = new LettersThatPass();
        DOC.is("0", x.letter(0), 1);
        DOC.is("255", x.letter(255), 2);
        DOC.is("they are the letters", x.word(), -1000);
        for (int k = 1; k <= 72; k++) {
            DOC.is("no. " + k, x.letter('('), k);
        }
        DOC.says("Promise 2", "-4; -6 (255; 72, too).");
        DOC.is("a 73rd", x.letter('a'), -6);
        DOC.is("a 73rd, 0", x.letter(0), -6);
        DOC.is("a 73rd, 256", x.letter(256), -6);
        DOC.is("a 73rd, -1", x.letter(-1), -4);
        DOC.is("it didn't come", x.count(1), 72);
        DOC.is("the sixth (", x.word(), -1005);
        DOC.is("-1", x.letter(-1), -4);
        DOC.is("least", x.letter(MIN), -4);
        DOC.is("256", x.letter(256), -6);
        DOC.is("a + 256", x.letter('a' + 256), -6);
        DOC.is("greatest", x.letter(MAX), -6);
        DOC.is("none came", x.count(1), 0);
        DOC.is("-4", x.count(14), 3);
        DOC.is("-6", x.count(16), 6);
    }

    private static void passes() {
        DOC.says("Promise 3", "Two LETTERS PASS, or, if they do, don't any more: 1 they do then, 0.");
        LettersThatPass x = new LettersThatPass();
        for (int a = 0; a < 6; a++) {
            for (int b = 0; b < 6; b++) {
                if (a != b) {
                    DOC.is("they do " + a + " " + b, x.passes(a, b), 1);
                    DOC.is("a", x.of(a, 1), 1 << b);
                    DOC.is("b", x.of(b, 1), 1 << a);
                    DOC.is("turned round, they don't " + a + " " + b, x.passes(b, a), 0);
                    DOC.is("none", x.of(a, 1) + x.of(b, 1) + x.count(3), 0);
                }
            }
        }
        DOC.says("Promise 3", "-1 either (one twice, too).");
        LettersThatPass y = new LettersThatPass();
        notTwoLetters(y, "passes", y::passes);
        DOC.is("none PASS", y.count(3), 0);
        DOC.is("nothing can be UNDONE", y.count(4), 0);
    }

    interface OfTwo {
        int ask(int a, int b);
    }

    private static void notTwoLetters(LettersThatPass x, String call, OfTwo asked) {
        int refused = 0;
        for (int wrong : NO_LETTERS) {
            DOC.is(call + " " + wrong + " 0", asked.ask(wrong, 0), -1);
            DOC.is(call + " 5 " + wrong, asked.ask(5, wrong), -1);
            DOC.is(call + " " + wrong + " twice", asked.ask(wrong, wrong), -1);
            refused += 3;
        }
        for (int a = 0; a < 6; a++) {
            DOC.is(call + " " + a + " twice", asked.ask(a, a), -1);
            refused++;
        }
        DOC.is("REFUSALS", x.count(11), refused);
    }

    private static void ranks() {
        DOC.says("Promise 4", "Two LETTERS change RANKS: the RANK that the first has then.");
        for (int a = 0; a < 6; a++) {
            for (int b = 0; b < 6; b++) {
                if (a != b) {
                    LettersThatPass x = new LettersThatPass();
                    DOC.is("the first has then " + a + " " + b, x.ranks(a, b), b);
                    DOC.is("the second", x.of(b, 0), a);
                    DOC.is("back again", x.ranks(a, b), a);
                    DOC.is("the second", x.of(b, 0), b);
                }
            }
        }
        DOC.says("Promise 4", "-1 either (one twice, too).");
        LettersThatPass y = new LettersThatPass();
        notTwoLetters(y, "ranks", y::ranks);
        for (int a = 0; a < 6; a++) {
            DOC.is("RANK of " + a, y.of(a, 0), a);
        }
        DOC.is("nothing can be UNDONE", y.count(4), 0);
    }

    private static void of() {
        DOC.says("Promise 5", "Of a LETTER: RANK (what 0), which it PASSES (1, bits).");
        LettersThatPass x = Due.with("af,fb,<fc");
        DOC.is("RANK of a", x.of(0, 0), 0);
        DOC.is("RANK of f", x.of(5, 0), 2);
        DOC.is("a PASSES", x.of(0, 1), 32);
        DOC.is("f PASSES", x.of(5, 1), 3);
        DOC.is("d PASSES", x.of(3, 1), 0);
        DOC.says("Promise 5", "-1; -2.");
        for (int wrong : NO_LETTERS) {
            DOC.is("of " + wrong, x.of(wrong, 0), -1);
            DOC.is("-1 ahead of -2", x.of(wrong, 2), -1);
        }
        for (int wrong : NO_WHATS) {
            DOC.is("what " + wrong, x.of(0, wrong), -2);
        }
        DOC.is("-1", x.count(11), 8);
        DOC.is("-2", x.count(12), 4);
    }

    private static void rules() {
        DOC.says("Promise 6", "The letters are RULES, and are no more (with a FAULT neither): how many; the FAULT (not counted).");
        LettersThatPass x = Due.with("", "abc");
        DOC.is("one", Due.rules(x, "ab"), 1);
        DOC.is("they are no more", x.count(1), 0);
        DOC.is("no letters are no RULES", x.rules(), -1000);
        DOC.is("a FAULT", Due.rules(x, "cd,<ef,g"), -1007);
        DOC.is("with a FAULT neither", x.count(1), 0);
        DOC.is("none of it was done", x.of(2, 1), 0);
        DOC.is("none of it was done", x.of(4, 0), 4);
        DOC.is("one can be UNDONE", x.count(4), 1);
        DOC.is("the WORD stays", Due.told(x, 0), "abc");
        DOC.is("something lacks", Due.rules(x, "cd,e"), -1004);
        DOC.is("with a FAULT neither", x.count(1), 0);
        noRefusals(x);
    }

    private static void noRefusals(LettersThatPass x) {
        for (int what = 11; what <= 16; what++) {
            DOC.is("not counted, " + what, x.count(what), 0);
        }
    }

    private static void word() {
        DOC.says("Promise 7", "The letters become a WORD more, and are no more (with a FAULT neither): its number; the FAULT (not"
            + " counted).");
        LettersThatPass x = new LettersThatPass();
        DOC.is("WORD 0", Due.word(x, "ab"), 0);
        DOC.is("they are no more", x.count(1), 0);
        DOC.is("no letters: an empty WORD", x.word(), 1);
        DOC.is("a FAULT of kind 1", Due.word(x, "a?"), -1001);
        DOC.is("with a FAULT neither", x.count(1), 0);
        DOC.is("15 LETTERS", Due.word(x, "a9b6"), -2000);
        DOC.is("with a FAULT neither", x.count(1), 0);
        DOC.is("no WORD more", x.count(0), 2);
        DOC.is("WORD 2", Due.word(x, "f9f5"), 2);
        x.word();
        x.word();
        DOC.is("five there are", Due.word(x, "a"), -2000);
        DOC.is("with a FAULT neither", x.count(1), 0);
        DOC.is("WORDS stay", x.count(2), 16);
        DOC.is("nothing can be UNDONE", x.count(4), 0);
        noRefusals(x);
    }

    private static void at() {
        DOC.says("Promise 8", "How many LETTERS a WORD has (i -1), the one at place i; -9 there are not so many.");
        LettersThatPass x = Due.with("", "", "f", "a9b5");
        DOC.is("0", x.at(0, -1), 0);
        DOC.is("1", x.at(1, -1), 1);
        DOC.is("14", x.at(2, -1), 14);
        DOC.is("the only one", x.at(1, 0), 5);
        DOC.is("the last", x.at(2, 13), 1);
        DOC.is("none", x.at(0, 0), -9);
        DOC.is("no second", x.at(1, 1), -9);
        DOC.is("no 15th", x.at(2, 14), -9);
        DOC.is("greatest", x.at(2, MAX), -9);
        DOC.says("Promise 8", "-1; -4 below -1.");
        for (int wrong : noWords(3)) {
            DOC.is("WORD " + wrong, x.at(wrong, 0), -1);
            DOC.is("-1 ahead of -4", x.at(wrong, -2), -1);
        }
        DOC.is("-2", x.at(2, -2), -4);
        DOC.is("least", x.at(0, MIN), -4);
        DOC.is("-1", x.count(11), 10);
        DOC.is("-4", x.count(14), 2);
    }

    private static void drop() {
        DOC.says("Promise 9", "The last WORD goes: how many there are.");
        LettersThatPass x = Due.with("", "a", "b", "c", "d", "e");
        for (int left = 4; left >= 0; left--) {
            DOC.is("left", x.drop(), left);
            DOC.is("it is gone", x.at(left, 0), -1);
            if (left > 0) {
                DOC.is("the one ahead stays", x.at(left - 1, 0), left - 1);
            }
        }
        DOC.says("Promise 9", "-3 there is none.");
        DOC.is("none", x.drop(), -3);
        DOC.is("none", x.count(0), 0);
        DOC.is("-3", x.count(13), 1);
        DOC.is("numbers from 0 again", x.word(), 0);
    }

    private static void alike() {
        DOC.says("Promise 10", "Whether two WORDS are ALIKE (1, 0).");
        LettersThatPass x = Due.with("ab", "", "ab", "ba", "bac");
        DOC.is("they are", x.alike(1, 2), 1);
        DOC.is("they aren't", x.alike(2, 3), 0);
        DOC.is("empty", x.alike(0, 0), 1);
        DOC.is("empty and not", x.alike(0, 1), 0);
        DOC.says("Promise 10", "-1 either.");
        for (int wrong : noWords(4)) {
            DOC.is("WORD " + wrong, x.alike(wrong, 0), -1);
            DOC.is("the other " + wrong, x.alike(0, wrong), -1);
        }
        DOC.is("-1", x.count(11), 10);
    }

    private static void blocks() {
        DOC.says("Promise 11", "BLOCKS: how many (k -1), LETTERS (bits) of BLOCK k; 0 there are not so many.");
        LettersThatPass x = Due.with("af", "", "afa", "(ab)7");
        DOC.is("none", x.blocks(0, -1), 0);
        DOC.is("no first", x.blocks(0, 0), 0);
        DOC.is("two", x.blocks(1, -1), 2);
        DOC.is("first", x.blocks(1, 0), 33);
        DOC.is("second", x.blocks(1, 1), 1);
        DOC.is("no third", x.blocks(1, 2), 0);
        DOC.is("14", x.blocks(2, -1), 14);
        DOC.is("14th", x.blocks(2, 13), 2);
        DOC.is("no 15th", x.blocks(2, 14), 0);
        DOC.is("greatest", x.blocks(2, MAX), 0);
        DOC.says("Promise 11", "-1; -4 below -1.");
        for (int wrong : noWords(3)) {
            DOC.is("WORD " + wrong, x.blocks(wrong, -2), -1);
        }
        DOC.is("-2", x.blocks(1, -2), -4);
        DOC.is("least", x.blocks(0, MIN), -4);
        DOC.is("-1, -4", x.count(11) * 10 + x.count(14), 52);
    }

    private static void least() {
        DOC.says("Promise 12", "The i-th LETTER of the LEAST WORD (which 0), the LAST WORD (1); -9 there are not so many.");
        LettersThatPass x = Due.with("af", "", "fafa", "a9b5");
        DOC.is("LEAST WORD", Due.least(x, 1, 0), "aaff");
        DOC.is("LAST WORD", Due.least(x, 1, 1), "ffaa");
        for (int which = 0; which <= 1; which++) {
            DOC.is("of none", x.least(0, 0, which), -9);
            DOC.is("no fifth", x.least(1, 4, which), -9);
            DOC.is("the 14th", x.least(2, 13, which), 1);
            DOC.is("no 15th", x.least(2, 14, which), -9);
            DOC.is("greatest", x.least(2, MAX, which), -9);
        }
        DOC.says("Promise 12", "-1; -4; -2.");
        for (int wrong : noWords(3)) {
            DOC.is("WORD " + wrong, x.least(wrong, -1, 2), -1);
        }
        DOC.is("i -1", x.least(1, -1, 0), -4);
        DOC.is("i least", x.least(0, MIN, 1), -4);
        DOC.is("-4 ahead of -2", x.least(1, -1, -1), -4);
        for (int wrong : NO_WHATS) {
            DOC.is("which " + wrong, x.least(1, 99, wrong), -2);
        }
        DOC.is("-1, -2, -4", x.count(11) * 100 + x.count(12) * 10 + x.count(14), 543);
    }

    private static void copies() {
        DOC.says("Promise 13", "COPIES.");
        LettersThatPass x = Due.with(ALL_PASS, "", "a", "a7b7", "abcdefabcdefab");
        DOC.is("of an empty WORD", x.copies(0), 1);
        DOC.is("of one LETTER", x.copies(1), 1);
        DOC.is("7 and 7", x.copies(2), 3432);
        DOC.is("the most", x.copies(3), 151351200L);
        x.passes(0, 1);
        DOC.is("as they PASS now", x.copies(2), 1);
        DOC.says("Promise 13", "Refused as told of longs: -1.");
        for (int wrong : noWords(4)) {
            DOC.is("WORD " + wrong, x.copies(wrong), Due.FAR + 1);
        }
        DOC.is("-1", x.count(11), 5);
    }

    private static void seen() {
        DOC.says("Promise 14", "The i-th LETTER of what is SEEN of two; -9 there are not so many.");
        LettersThatPass x = Due.with("ab", "", "abcba", "(af)7");
        DOC.is("all", Due.spell(i -> x.seen(1, 0, 1, i)), "abba");
        DOC.is("of an empty WORD", x.seen(0, 0, 1, 0), -9);
        DOC.is("no fifth", x.seen(1, 0, 1, 4), -9);
        DOC.is("14th", x.seen(2, 5, 0, 13), 5);
        DOC.is("no 15th", x.seen(2, 5, 0, 14), -9);
        DOC.is("greatest", x.seen(2, 5, 5, MAX), -9);
        DOC.says("Promise 14", "-1 (WORD; either LETTER); -4.");
        for (int wrong : noWords(3)) {
            DOC.is("WORD " + wrong, x.seen(wrong, 0, 1, -1), -1);
        }
        for (int wrong : NO_LETTERS) {
            DOC.is("LETTER " + wrong, x.seen(1, wrong, 0, -1), -1);
            DOC.is("the other " + wrong, x.seen(1, 0, wrong, -1), -1);
            DOC.is("twice " + wrong, x.seen(1, wrong, wrong, 0), -1);
        }
        DOC.is("i -1", x.seen(1, 0, 1, -1), -4);
        DOC.is("i least", x.seen(0, 0, 0, MIN), -4);
        DOC.is("-1, -4", x.count(11) * 10 + x.count(14), 172);
    }

    private static void spread() {
        DOC.says("Promise 15", "SPREAD of a LETTER's n-th time: the least place (what 0), the greatest (1); -9.");
        LettersThatPass x = Due.with("af", "", "a7f7", "cafac");
        DOC.is("least", x.spread(1, 5, 0, 0), 0);
        DOC.is("greatest", x.spread(1, 5, 0, 1), 7);
        DOC.is("last time, least", x.spread(1, 0, 6, 0), 6);
        DOC.is("last time, greatest", x.spread(1, 0, 6, 1), 13);
        DOC.is("between", x.spread(2, 5, 0, 0), 1);
        DOC.is("between", x.spread(2, 5, 0, 1), 3);
        DOC.is("once more than there are", x.spread(1, 0, 7, 0), -9);
        DOC.is("an empty WORD", x.spread(0, 0, 0, 0), -9);
        DOC.is("greatest", x.spread(1, 0, MAX, 1), -9);
        DOC.says("Promise 15", "-1 (WORD, LETTER); -4; -2.");
        for (int wrong : noWords(3)) {
            DOC.is("WORD " + wrong, x.spread(wrong, 0, -1, 2), -1);
        }
        for (int wrong : NO_LETTERS) {
            DOC.is("LETTER " + wrong, x.spread(1, wrong, -1, 2), -1);
        }
        DOC.is("n -1, ahead of -2", x.spread(1, 0, -1, 2), -4);
        DOC.is("n least", x.spread(0, 0, MIN, 0), -4);
        for (int wrong : NO_WHATS) {
            DOC.is("what " + wrong + ", ahead of -9", x.spread(0, 0, 0, wrong), -2);
        }
        DOC.is("-1, -2, -4", x.count(11) * 100 + x.count(12) * 10 + x.count(14), 942);
    }

    private static void odds() {
        DOC.says("Promise 16", "ODDS: part 0 above, 1 below the line.");
        LettersThatPass x = Due.with(ALL_PASS, "", "f", "abcde", "ad");
        DOC.is("of an empty WORD", x.odds(0, 0) * 10 + x.odds(0, 1), 1);
        DOC.is("0 by 1", x.odds(1, 0) * 10 + x.odds(1, 1), 1);
        DOC.is("3 by 5", x.odds(2, 0) * 10 + x.odds(2, 1), 35);
        DOC.is("1 by 2", x.odds(3, 0) * 10 + x.odds(3, 1), 12);
        DOC.says("Promise 16", "Refused as told of longs: -1; -2.");
        for (int wrong : noWords(4)) {
            DOC.is("WORD " + wrong, x.odds(wrong, 2), Due.FAR + 1);
        }
        for (int wrong : NO_WHATS) {
            DOC.is("part " + wrong, x.odds(0, wrong), Due.FAR + 2);
        }
        DOC.is("-1, -2", x.count(11) * 10 + x.count(12), 54);
    }

    private static void begins() {
        DOC.says("Promise 17", "Whether v BEGINS with u (i -1; 1, 0), the i-th LETTER of REST (-9 there are not so many, or it"
            + " doesn't).");
        LettersThatPass x = Due.with("ac", "", "abc", "c", "a", "(abcdefa)2");
        DOC.is("it does", x.begins(1, 3, -1), 1);
        DOC.is("REST", Due.spell(i -> x.begins(1, 3, i)), "bc");
        DOC.is("no third", x.begins(1, 3, 2), -9);
        DOC.is("it doesn't", x.begins(1, 2, -1), 0);
        DOC.is("no REST then", x.begins(1, 2, 0), -9);
        DOC.is("14, with none", x.begins(4, 0, 13), 0);
        DOC.is("14, with none", x.begins(4, 0, 14), -9);
        DOC.is("14, with itself", x.begins(4, 4, -1), 1);
        DOC.is("14, with itself", x.begins(4, 4, 0), -9);
        DOC.is("greatest", x.begins(4, 0, MAX), -9);
        DOC.says("Promise 17", "-1 either; -4 below -1.");
        eitherWord(x, "begins", (v, u) -> x.begins(v, u, -2));
        DOC.is("i -2", x.begins(1, 2, -2), -4);
        DOC.is("i least", x.begins(0, 0, MIN), -4);
        DOC.is("-4", x.count(14), 2);
    }

    /** Of an object with five WORDS. */
    private static void eitherWord(LettersThatPass x, String call, OfTwo asked) {
        int before = x.count(11);
        for (int wrong : new int[] {MIN, -1, 5, MAX}) {
            DOC.is(call + " " + wrong + " 0", asked.ask(wrong, 0), -1);
            DOC.is(call + " 4 " + wrong, asked.ask(4, wrong), -1);
            DOC.is(call + " " + wrong + " twice", asked.ask(wrong, wrong), -1);
        }
        DOC.is("REFUSALS", x.count(11) - before, 12);
    }

    private static void common() {
        DOC.says("Promise 18", "COMMON: how many LETTERS (i -1), the i-th (-9 there are not so many).");
        LettersThatPass x = Due.with("ac,<ac", "", "acb", "cad", "b", "(abcdefa)2");
        DOC.is("two", x.common(1, 2, -1), 2);
        DOC.is("by RANKS", Due.spell(i -> x.common(1, 2, i)), "ca");
        DOC.is("no third", x.common(1, 2, 2), -9);
        DOC.is("none", x.common(1, 3, -1), 0);
        DOC.is("no first", x.common(1, 3, 0), -9);
        DOC.is("with an empty one", x.common(0, 4, -1), 0);
        DOC.is("14", x.common(4, 4, 13), 0);
        DOC.is("no 15th", x.common(4, 4, 14), -9);
        DOC.is("greatest", x.common(4, 4, MAX), -9);
        DOC.says("Promise 18", "-1 either; -4 below -1.");
        eitherWord(x, "common", (u, v) -> x.common(u, v, -2));
        DOC.is("i -2", x.common(1, 2, -2), -4);
        DOC.is("i least", x.common(0, 0, MIN), -4);
        DOC.is("-4", x.count(14), 2);
    }

    private static void product() {
        DOC.says("Promise 19", "The PRODUCT comes as a WORD more: its number.");
        LettersThatPass x = Due.with("ab", "", "bacdefa", "b8");
        DOC.is("of none", x.product(0, 0), 3);
        DOC.is("none", x.at(3, -1), 0);
        DOC.is("7 and 7", x.product(1, 1), 4);
        DOC.is("14", Due.told(x, 4), "bacdefabacdefa");
        DOC.says("Promise 19", "-1 either; -6 (above 14; five there are).");
        DOC.is("five there are, an empty one", x.product(0, 0), -6);
        eitherWord(x, "product", x::product);
        x.drop();
        DOC.is("7 and 8", x.product(1, 2), -6);
        DOC.is("8 and 7", x.product(2, 1), -6);
        DOC.is("8 and 8", x.product(2, 2), -6);
        DOC.is("no WORD more", x.count(0), 4);
        DOC.is("-6", x.count(16), 4);
        DOC.is("8 and none", x.product(2, 0), 4);
    }

    private static void power() {
        DOC.says("Promise 20", "The POWER comes as a WORD more: its number.");
        LettersThatPass x = Due.with("", "", "abcdefa", "b", "aaaaaaaaaaaaaa");
        for (int n : new int[] {0, 1, 15, 2147483, MAX}) {
            DOC.is("none, times " + n, x.power(0, n), 4);
            DOC.is("none", x.at(4, -1), 0);
            x.drop();
        }
        DOC.is("14 times 1", x.power(2, 14), 4);
        DOC.is("told", Due.told(x, 4), "b".repeat(14));
        x.drop();
        DOC.is("once 14", x.power(3, 1), 4);
        DOC.is("told", Due.told(x, 4), "a".repeat(14));
        x.drop();
        DOC.is("twice 7", x.power(1, 2), 4);
        DOC.is("told", Due.told(x, 4), "abcdefaabcdefa");
        x.drop();
        DOC.says("Promise 20", "-1; -4 n; -6 (above 14; five there are).");
        for (int wrong : noWords(4)) {
            DOC.is("WORD " + wrong, x.power(wrong, -1), -1);
        }
        DOC.is("n -1", x.power(0, -1), -4);
        DOC.is("n least", x.power(3, MIN), -4);
        DOC.is("15", x.power(2, 15), -6);
        DOC.is("21", x.power(1, 3), -6);
        DOC.is("28", x.power(3, 2), -6);
        DOC.is("a number of LETTERS that wraps around to 3", x.power(1, 613566757), -6);
        DOC.is("one that wraps around to 0 times", x.power(3, MIN >>> 1), -6);
        DOC.is("one below 0", x.power(1, 306783379), -6);
        DOC.is("greatest", x.power(2, MAX), -6);
        DOC.is("no WORD more", x.count(0), 4);
        x.word();
        DOC.is("five there are", x.power(0, 0), -6);
        DOC.is("five there are, n -1", x.power(0, -1), -4);
        DOC.is("-1, -4, -6", x.count(11) * 100 + x.count(14) * 10 + x.count(16), 538);
    }

    private static void changes() {
        DOC.says("Promise 21", "Whether two CHANGE (1, 0).");
        LettersThatPass x = Due.with("ac,bc", "", "ab", "c", "(ab)7", "a");
        DOC.is("they do", x.changes(1, 2), 1);
        DOC.is("they don't", x.changes(1, 4), 0);
        DOC.is("none", x.changes(0, 3), 1);
        DOC.is("none twice", x.changes(0, 0), 1);
        DOC.is("14 twice", x.changes(3, 3), 1);
        DOC.is("14 and one", x.changes(3, 4), 0);
        DOC.says("Promise 21", "-1 either.");
        eitherWord(x, "changes", x::changes);
    }

    private static void root() {
        DOC.says("Promise 22", "ROOT: k (i -1), the i-th LETTER of the LEAST WORD of r (-9 there are not so many).");
        LettersThatPass x = Due.with("ab", "b", "bbaa", "a9a5", "abcdefabcdefab", "");
        DOC.is("1", x.root(0, -1), 1);
        DOC.is("r", Due.spell(i -> x.root(0, i)), "b");
        DOC.is("2", x.root(1, -1), 2);
        DOC.is("r", Due.spell(i -> x.root(1, i)), "ab");
        DOC.is("14", x.root(2, -1), 14);
        DOC.is("no second", x.root(2, 1), -9);
        DOC.is("14 LETTERS", x.root(3, -1), 1);
        DOC.is("14th", x.root(3, 13), 1);
        DOC.is("no 15th", x.root(3, 14), -9);
        DOC.is("greatest", x.root(3, MAX), -9);
        DOC.says("Promise 22", "-1; -4 below -1; -3 it is empty.");
        for (int wrong : new int[] {MIN, -1, 5, MAX}) {
            DOC.is("WORD " + wrong, x.root(wrong, -2), -1);
        }
        DOC.is("i -2, ahead of -3", x.root(4, -2), -4);
        DOC.is("i least", x.root(0, MIN), -4);
        DOC.is("empty", x.root(4, -1), -3);
        DOC.is("empty", x.root(4, 0), -3);
        DOC.is("-1, -3, -4", x.count(11) * 100 + x.count(13) * 10 + x.count(14), 422);
    }

    private static void parts() {
        DOC.says("Promise 23", "PARTS: how many (a -1), the one of a LETTER (bits; 0).");
        LettersThatPass x = Due.with(ALL_PASS, "", "abcdef", "ff");
        DOC.is("none", x.parts(0, -1), 0);
        DOC.is("six", x.parts(1, -1), 6);
        DOC.is("one", x.parts(2, -1), 1);
        for (int a = 0; a < 6; a++) {
            DOC.is("of an empty WORD", x.parts(0, a), 0);
            DOC.is("alone", x.parts(1, a), 1 << a);
            DOC.is("f alone", x.parts(2, a), a == 5 ? 32 : 0);
        }
        DOC.says("Promise 23", "-1 (WORD; a below -1, above 5).");
        for (int wrong : noWords(3)) {
            DOC.is("WORD " + wrong, x.parts(wrong, -1), -1);
        }
        for (int wrong : new int[] {MIN, -2, 6, MAX}) {
            DOC.is("LETTER " + wrong, x.parts(1, wrong), -1);
        }
        DOC.is("-1", x.count(11), 9);
    }

    private static void turned() {
        DOC.says("Promise 24", "How many WORDS it can be TURNED to.");
        LettersThatPass x = Due.with("", "", "a", "ab", "abcdefa", "a8");
        int[] due = {1, 1, 2, 7};
        for (int word = 0; word < due.length; word++) {
            DOC.is("WORD " + word, x.turned(word), due[word]);
        }
        DOC.says("Promise 24", "-1; -6 it has more than 7 LETTERS.");
        DOC.is("8", x.turned(4), -6);
        x.drop();
        for (int wrong : noWords(4)) {
            DOC.is("WORD " + wrong, x.turned(wrong), -1);
        }
        Due.word(x, "a9b5");
        DOC.is("14", x.turned(4), -6);
        DOC.is("-1, -6", x.count(11) * 10 + x.count(16), 52);
    }

    private static void turn() {
        DOC.says("Promise 25", "The i-th LETTER of the k-th WORD to which it can be TURNED; -9 there are not so many, either.");
        LettersThatPass x = Due.with("", "", "fab", "abcdeff", "a8");
        String[] due = {"abf", "bfa", "fab", ""};
        for (int k = 0; k < due.length; k++) {
            int number = k;
            DOC.is("WORD " + k, Due.spell(i -> x.turn(1, number, i)), due[k]);
        }
        DOC.is("an empty one has no LETTER", x.turn(0, 0, 0), -9);
        DOC.is("an empty one has no other", x.turn(0, 1, 0), -9);
        DOC.is("the last of the last", x.turn(2, 6, 6), 4);
        DOC.is("no eighth LETTER", x.turn(2, 6, 7), -9);
        DOC.is("no eighth WORD", x.turn(2, 7, 6), -9);
        DOC.is("greatest k", x.turn(2, MAX, 0), -9);
        DOC.is("greatest i", x.turn(2, 0, MAX), -9);
        DOC.is("greatest, both", x.turn(2, MAX, MAX), -9);
        DOC.says("Promise 25", "-1; -4 either; -6 more than 7.");
        for (int wrong : noWords(4)) {
            DOC.is("WORD " + wrong, x.turn(wrong, -1, -1), -1);
        }
        DOC.is("k -1", x.turn(2, -1, 0), -4);
        DOC.is("i -1", x.turn(2, 0, -1), -4);
        DOC.is("k least, ahead of -6", x.turn(3, MIN, 0), -4);
        DOC.is("i least, ahead of -6", x.turn(3, 0, MIN), -4);
        DOC.is("8", x.turn(3, 0, 0), -6);
        DOC.is("8, beyond", x.turn(3, MAX, MAX), -6);
        DOC.is("-1, -4, -6", x.count(11) * 100 + x.count(14) * 10 + x.count(16), 542);
    }

    private static void apart() {
        DOC.says("Promise 26", "APART; -9.");
        LettersThatPass x = Due.with("", "", "abcdeff", "fabcdef", "a8", "ab");
        DOC.is("none", x.apart(0, 0), 0);
        DOC.is("itself", x.apart(1, 1), 0);
        DOC.is("six MOVES", x.apart(1, 2), 6);
        DOC.is("one MOVE", x.apart(2, 1), 1);
        DOC.is("no MOVES lead there", x.apart(1, 4), -9);
        DOC.is("nor from none", x.apart(0, 4), -9);
        DOC.is("nor to none", x.apart(4, 0), -9);
        DOC.says("Promise 26", "-1 either; -6 either has more than 7.");
        DOC.is("8, the first", x.apart(3, 1), -6);
        DOC.is("8, the other", x.apart(1, 3), -6);
        DOC.is("8, both", x.apart(3, 3), -6);
        eitherWord(x, "apart", x::apart);
        DOC.is("-1 ahead of -6", x.apart(3, 5), -1);
        DOC.is("-1 ahead of -6", x.apart(-1, 3), -1);
        DOC.is("-6", x.count(16), 3);
    }

    private static void unlike() {
        DOC.says("Promise 27", "UNLIKE of n with LETTERS below m.");
        LettersThatPass x = Due.with("ab,ef");
        DOC.is("0 of 1", x.unlike(0, 1), 1);
        DOC.is("0 of 6", x.unlike(0, 6), 1);
        DOC.is("12 of 1", x.unlike(12, 1), 1);
        DOC.is("12 of 2, which PASS", x.unlike(12, 2), 13);
        DOC.is("2 of 5: e, f don't count", x.unlike(2, 5), 24);
        DOC.is("2 of 6", x.unlike(2, 6), 34);
        x.undo();
        DOC.is("12 of 6: more than an int", x.unlike(12, 6), 2176782336L);
        DOC.says("Promise 27", "Refused as told of longs: -4 (n; m 1); -6 (12; 6).");
        for (int wrong : new int[] {MIN, -1}) {
            DOC.is("n " + wrong, x.unlike(wrong, 1), Due.FAR + 4);
            DOC.is("n " + wrong + ", ahead of -6", x.unlike(wrong, 7), Due.FAR + 4);
        }
        for (int wrong : new int[] {MIN, -1, 0}) {
            DOC.is("m " + wrong, x.unlike(0, wrong), Due.FAR + 4);
            DOC.is("m " + wrong + ", ahead of -6", x.unlike(13, wrong), Due.FAR + 4);
        }
        DOC.is("n 13", x.unlike(13, 1), Due.FAR + 6);
        DOC.is("n greatest", x.unlike(MAX, 6), Due.FAR + 6);
        DOC.is("m 7", x.unlike(0, 7), Due.FAR + 6);
        DOC.is("m greatest", x.unlike(12, MAX), Due.FAR + 6);
        DOC.is("-4, -6", x.count(14) * 10 + x.count(16), 104);
    }

    private static void free() {
        DOC.says("Promise 28", "FREE.");
        LettersThatPass x = new LettersThatPass();
        DOC.is("none PASS", x.free(), 7);
        Due.rules(x, ALL_PASS);
        DOC.is("all PASS", x.free(), 64);
        Due.rules(x, "ab,cd,ef");
        DOC.is("three pairs don't", x.free(), 27);
    }

    private static void lots() {
        DOC.says("Promise 29", "LOTS of a WORD: how often (what 0), places (1).");
        LettersThatPass x = Due.with("ab", "", "a", "ba", "(ab)7");
        DOC.is("once", x.lots(2, 1, 0, 0), 1);
        DOC.is("once: places", x.lots(2, 1, 0, 1), 2);
        DOC.is("60", x.lots(2, 60, 0, 0), 60);
        DOC.is("60: places", x.lots(2, 60, 0, 1), 0);
        DOC.is("59: places", x.lots(2, 59, 0, 1), 2);
        DOC.says("Promise 29", "-1; -4 below 1; -6 60; -2; -3 fewer than two LETTERS.");
        for (int wrong : noWords(4)) {
            DOC.is("WORD " + wrong, x.lots(wrong, 0, 0, 2), -1);
        }
        for (int wrong : new int[] {MIN, -1, 0}) {
            DOC.is("n " + wrong, x.lots(0, wrong, 0, 2), -4);
        }
        for (int wrong : new int[] {61, MAX}) {
            DOC.is("n " + wrong, x.lots(0, wrong, 0, 2), -6);
        }
        for (int wrong : NO_WHATS) {
            DOC.is("what " + wrong, x.lots(0, 1, 0, wrong), -2);
        }
        DOC.is("none", x.lots(0, 1, 0, 0), -3);
        DOC.is("one", x.lots(1, 60, 0, 1), -3);
        DOC.is("-1, -2, -3", x.count(11) * 100 + x.count(12) * 10 + x.count(13), 542);
        DOC.is("-4, -6", x.count(14) * 10 + x.count(16), 32);
    }

    private static void list() {
        DOC.says("Promise 30", "A LIST becomes a row of n ints, all 0: 1.");
        LettersThatPass x = new LettersThatPass();
        for (int n : new int[] {0, 1, 39, 40, 7}) {
            DOC.is("list " + n, x.list(2, n), 1);
            for (int i = 0; i < n; i++) {
                DOC.is("0", x.look(2, i), 0);
                x.put(2, i, i + 1);
            }
            DOC.is("no more", x.look(2, n), Due.FAR + 13);
        }
        DOC.is("others are missing still", x.look(1, 0), Due.FAR + 11);
        DOC.says("Promise 30", "-1; -6 40; -14.");
        for (int wrong : NO_LISTS) {
            DOC.is("LIST " + wrong, x.list(wrong, 41), -1);
            DOC.is("LIST " + wrong, x.list(wrong, -1), -1);
        }
        DOC.is("41", x.list(2, 41), -6);
        DOC.is("greatest", x.list(1, MAX), -6);
        DOC.is("-1", x.list(2, -1), -14);
        DOC.is("least", x.list(1, MIN), -14);
        DOC.is("it stays", x.look(2, 6), 7);
        DOC.is("it is missing still", x.look(1, 0), Due.FAR + 11);
        DOC.is("-1, -6", x.count(11) * 10 + x.count(16), 82);
    }

    private static void put() {
        DOC.says("Promise 31", "Place i of a LIST becomes v: 1.");
        LettersThatPass x = new LettersThatPass();
        x.list(0, 40);
        x.list(1, 0);
        for (int v : new int[] {MIN, -1, 0, 1, MAX}) {
            DOC.is("first", x.put(0, 0, v), 1);
            DOC.is("is " + v, x.look(0, 0), v);
            DOC.is("last", x.put(0, 39, v), 1);
            DOC.is("is " + v, x.look(0, 39), v);
            DOC.is("others stay", x.look(0, 1) + x.look(0, 38), 0);
        }
        DOC.says("Promise 31", "-1; -11; -13.");
        for (int wrong : NO_LISTS) {
            DOC.is("LIST " + wrong, x.put(wrong, -1, 5), -1);
        }
        DOC.is("missing", x.put(2, 0, 5), -11);
        DOC.is("missing, ahead of -13", x.put(2, -1, 5), -11);
        for (int wrong : new int[] {MIN, -1, 40, MAX}) {
            DOC.is("place " + wrong, x.put(0, wrong, 5), -13);
        }
        DOC.is("an empty LIST", x.put(1, 0, 5), -13);
        DOC.is("they stay", x.look(0, 0) + x.look(0, 39), 2L * MAX);
        DOC.is("-1", x.count(11), 4);
    }

    private static void look() {
        DOC.says("Promise 32", "Place i of a LIST.");
        LettersThatPass x = new LettersThatPass();
        x.list(0, 40);
        x.list(1, 0);
        x.put(0, 39, MIN);
        x.put(0, 0, MAX);
        DOC.is("first", x.look(0, 0), MAX);
        DOC.is("last", x.look(0, 39), MIN);
        DOC.is("between", x.look(0, 20), 0);
        DOC.says("Promise 32", "Refused as told of longs: -1; -11; -13.");
        for (int wrong : NO_LISTS) {
            DOC.is("LIST " + wrong, x.look(wrong, -1), Due.FAR + 1);
        }
        DOC.is("missing", x.look(2, 0), Due.FAR + 11);
        DOC.is("missing, ahead of -13", x.look(2, 40), Due.FAR + 11);
        for (int wrong : new int[] {MIN, -1, 40, MAX}) {
            DOC.is("place " + wrong, x.look(0, wrong), Due.FAR + 13);
        }
        DOC.is("an empty LIST", x.look(1, 0), Due.FAR + 13);
        DOC.is("-1", x.count(11), 4);
    }

    private static void from() {
        DOC.says("Promise 33", "FROM A LIST, from place i on, n of them: the WORD's number.");
        LettersThatPass x = new LettersThatPass();
        x.list(0, 15);
        x.list(1, 0);
        for (int i = 0; i < 15; i++) {
            x.put(0, i, i % 5 + 1);
        }
        DOC.is("14 from 1 on", x.from(0, 1, 14), 0);
        DOC.is("told", Due.told(x, 0), "cdefbcdefbcdef");
        DOC.is("the last", x.from(0, 14, 1), 1);
        DOC.is("told", Due.told(x, 1), "f");
        DOC.is("none of an empty LIST", x.from(1, 0, 0), 2);
        DOC.is("told", Due.told(x, 2), "");
        DOC.is("none behind the last place", x.from(0, 15, 0), 3);
        DOC.is("the LIST stays", x.look(0, 14), 5);
        DOC.says("Promise 33", "-1; -4 n; -6 (14; five there are); -11; -13 not all are there; -3 one is no LETTER.");
        for (int wrong : NO_LISTS) {
            DOC.is("LIST " + wrong, x.from(wrong, 0, -1), -1);
        }
        DOC.is("n -1", x.from(2, 0, -1), -4);
        DOC.is("n least", x.from(0, 0, MIN), -4);
        DOC.is("n 15", x.from(2, 0, 15), -6);
        DOC.is("n greatest", x.from(0, 0, MAX), -6);
        DOC.is("missing", x.from(2, -1, 1), -11);
        DOC.is("missing, none of it", x.from(2, 0, 0), -11);
        DOC.is("14 from 2 on", x.from(0, 2, 14), -13);
        DOC.is("one of an empty LIST", x.from(1, 0, 1), -13);
        for (int wrong : new int[] {MIN, -1, 15, MAX}) {
            DOC.is("one from " + wrong, x.from(0, wrong, 1), -13);
        }
        DOC.is("places that wrap around", x.from(0, MAX, 14), -13);
        DOC.is("from -1 on, two", x.from(0, -1, 2), -13);
        x.put(0, 14, 6);
        DOC.is("-13 ahead of -3", x.from(0, 14, 2), -13);
        DOC.is("6", x.from(0, 14, 1), -3);
        x.put(0, 0, -1);
        DOC.is("-1", x.from(0, 0, 14), -3);
        DOC.is("no WORD more", x.count(0), 4);
        x.word();
        DOC.is("five there are", x.from(0, 1, 1), -6);
        DOC.is("five there are, ahead of -11", x.from(2, 0, 0), -6);
        DOC.is("-1, -3, -4", x.count(11) * 100 + x.count(13) * 10 + x.count(14), 422);
        DOC.is("-6", x.count(16), 4);
    }

    private static void lays() {
        DOC.says("Promise 34", "LETTERS of a WORD's LEAST WORD are laid into a LIST from place i on: how many.");
        LettersThatPass x = Due.with("ab", "", "ba", "b7a7", "f");
        x.list(0, 15);
        x.list(1, 0);
        DOC.is("14 from 1 on", x.lays(0, 1, 2), 14);
        for (int i = 0; i < 15; i++) {
            DOC.is("laid " + i, x.look(0, i), i < 8 ? 0 : 1);
        }
        DOC.is("one, at the last place", x.lays(0, 14, 3), 1);
        DOC.is("laid", x.look(0, 14), 5);
        DOC.is("the one ahead stays", x.look(0, 13), 1);
        DOC.is("the WORD stays", Due.told(x, 1), "ba");
        x.ranks(0, 1);
        DOC.is("two, by RANKS", x.lays(0, 12, 1), 2);
        DOC.is("b has the lesser RANK", x.look(0, 12), 1);
        DOC.is("a has the greater RANK", x.look(0, 13), 0);
        DOC.is("none into an empty LIST", x.lays(1, 0, 0), 0);
        DOC.is("none behind the last place", x.lays(0, 15, 0), 0);
        DOC.says("Promise 34", "-1 either; -11; -13 not all have a place (none is laid).");
        for (int wrong : NO_LISTS) {
            DOC.is("LIST " + wrong, x.lays(wrong, -1, 1), -1);
        }
        for (int wrong : noWords(4)) {
            DOC.is("WORD " + wrong, x.lays(0, -1, wrong), -1);
            DOC.is("WORD " + wrong + ", ahead of -11", x.lays(2, 0, wrong), -1);
        }
        DOC.is("missing", x.lays(2, -1, 1), -11);
        DOC.is("missing, none to be laid", x.lays(2, 0, 0), -11);
        for (int wrong : new int[] {MIN, -1, 14, 15, MAX - 1, MAX}) {
            DOC.is("two from " + wrong, x.lays(0, wrong, 1), -13);
        }
        DOC.is("14 from 2 on", x.lays(0, 2, 2), -13);
        DOC.is("one into an empty LIST", x.lays(1, 0, 3), -13);
        x.list(1, 40);
        DOC.is("14 from 27 on, of 40", x.lays(1, 27, 2), -13);
        DOC.is("14 from 26 on, of 40", x.lays(1, 26, 2), 14);
        DOC.is("the last", x.look(1, 39), 0);
        DOC.is("the first", x.look(1, 26), 1);
        DOC.is("none is laid, first", x.look(0, 0), 0);
        DOC.is("none is laid, last", x.look(0, 14), 5);
        DOC.is("-1", x.count(11), 14);
    }

    private static void judge() {
        DOC.says("Promise 35", "JUDGED; -9.");
        LettersThatPass x = Due.with("ab", "", "ba", "a9b5");
        x.list(0, 14);
        x.list(1, 0);
        DOC.is("otherwise at 9", x.judge(0, 2), 9);
        for (int i = 9; i < 14; i++) {
            x.put(0, i, 1);
        }
        DOC.is("all 14", x.judge(0, 2), -9);
        DOC.is("otherwise at 0", x.judge(0, 1), 0);
        x.put(0, 13, 2);
        DOC.is("otherwise at 13", x.judge(0, 2), 13);
        DOC.is("of an empty WORD", x.judge(0, 0), 0);
        DOC.is("an empty LIST", x.judge(1, 2), -9);
        DOC.is("an empty LIST of an empty WORD", x.judge(1, 0), -9);
        DOC.says("Promise 35", "-1 either; -11.");
        for (int wrong : NO_LISTS) {
            DOC.is("LIST " + wrong, x.judge(wrong, 0), -1);
        }
        for (int wrong : noWords(3)) {
            DOC.is("WORD " + wrong, x.judge(0, wrong), -1);
            DOC.is("WORD " + wrong + ", ahead of -11", x.judge(2, wrong), -1);
        }
        DOC.is("missing", x.judge(2, 0), -11);
        DOC.is("-1", x.count(11), 14);
    }

    private static void undo() {
        DOC.says("Promise 36", "The latest is UNDONE: how many still can be.");
        LettersThatPass x = new LettersThatPass();
        for (int k = 1; k <= 9; k++) {
            x.passes(k % 2, 2 + k % 3);
        }
        for (int left = 7; left >= 0; left--) {
            DOC.is("still", x.undo(), left);
            DOC.is("count", x.count(4), left);
        }
        DOC.is("the oldest of nine stays", x.of(1, 1), 8);
        DOC.is("that one alone", x.count(3), 1);
        DOC.says("Promise 36", "-3 there is none.");
        DOC.is("none", x.undo(), -3);
        DOC.is("it stays", x.of(1, 1), 8);
        DOC.is("-3", x.count(13), 1);
        DOC.is("a new object", new LettersThatPass().undo(), -3);
    }

    private static void image() {
        DOC.says("Promise 37", "THE IMAGE is taken: how many WORDS.");
        LettersThatPass x = new LettersThatPass();
        for (int words = 0; words <= 5; words++) {
            DOC.is("WORDS", x.image(), words);
            x.word();
        }
        x.drop();
        x.drop();
        DOC.is("the later one", x.image(), 3);
        DOC.is("the later one", x.on(), 3);
        x.passes(0, 1);
        x.image();
        DOC.is("what can be UNDONE stays", x.undo(), 0);
        DOC.is("UNDONE", x.count(3), 0);
        DOC.is("the IMAGE stays as it was taken", x.on(), 3);
        DOC.is("the IMAGE stays as it was taken", x.count(3), 1);
        noRefusals(x);
    }

    private static void on() {
        DOC.says("Promise 38", "ON from it: how many WORDS.");
        LettersThatPass x = new LettersThatPass();
        DOC.says("Promise 38", "-3 there is no IMAGE.");
        DOC.is("none", x.on(), -3);
        DOC.is("-3", x.count(13), 1);
        DOC.says("Promise 38", "ON from it: how many WORDS.");
        x.image();
        Due.word(x, "ab");
        x.passes(0, 1);
        DOC.is("an IMAGE of nothing", x.on(), 0);
        DOC.is("none PASS", x.count(3), 0);
        DOC.is("-3 as it was", x.count(13), 1);
        for (int k = 0; k < 5; k++) {
            Due.word(x, "a9b5");
        }
        x.image();
        x.drop();
        x.drop();
        Due.word(x, "c");
        DOC.is("five", x.on(), 5);
        DOC.is("LETTERS", x.count(2), 70);
        DOC.is("WORD 3", x.at(3, 0), 0);
        DOC.is("WORD 4", x.at(4, 13), 1);
    }

    private static void count() {
        DOC.says("Promise 39", "0 WORDS, 1 letters, 2 LETTERS of all WORDS, 3 pairs that PASS, 4 what can be UNDONE, 11 .. 16"
            + " REFUSALS -1 .. -6.");
        LettersThatPass x = new LettersThatPass();
        Due.rules(x, ALL_PASS);
        for (int k = 0; k < 9; k++) {
            x.ranks(0, 1);
        }
        for (int k = 0; k < 5; k++) {
            Due.word(x, "a9b5");
        }
        for (int k = 0; k < 72; k++) {
            x.letter(255);
        }
        long[] most = {5, 72, 70, 15, 8};
        for (int what = 0; what < most.length; what++) {
            DOC.is("the most, " + what, x.count(what), most[what]);
        }
        for (int k = 0; k < 6; k++) {
            x.at(-1, 0);
        }
        for (int k = 0; k < 5; k++) {
            x.of(0, 2);
        }
        for (int k = 0; k < 4; k++) {
            x.on();
        }
        for (int k = 0; k < 3; k++) {
            x.letter(-1);
        }
        x.letter(1);
        int[] due = {6, 5, 4, 3, 0, 1};
        for (int k = 0; k < due.length; k++) {
            DOC.is("REFUSALS " + (-1 - k), x.count(11 + k), due[k]);
        }
        DOC.says("Promise 39", "-9 for another what.");
        for (int what : new int[] {MIN, -16, -11, -1, 5, 6, 7, 8, 9, 10, 17, 18, 100, MAX}) {
            DOC.is("what " + what, x.count(what), -9);
        }
        DOC.is("that isn't a REFUSAL", x.count(12), 5);
    }
}
