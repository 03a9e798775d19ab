/** Promises 1 to 9. */
public final class LettersWordsTest {
    private static final Due DUE = new Due("LettersWordsTest");

    public static void main(String[] args) {
        newObject();
        letter();
        passes();
        ranks();
        of();
        rules();
        rulesFaults();
        word();
        wordFaults();
        wordRoom();
        at();
        drop();
        DUE.end();
    }

    private static void newObject() {
        LettersThatPass x = new LettersThatPass();
        for (int a = 0; a < 6; a++) {
            DUE.is("new: rank of " + a, x.of(a, 0), a);
            DUE.is("new: passed by " + a, x.of(a, 1), 0);
        }
        for (int what = 0; what <= 4; what++) {
            DUE.is("new: count " + what, x.count(what), 0);
        }
        for (int what = 11; what <= 16; what++) {
            DUE.is("new: count " + what, x.count(what), 0);
        }
        DUE.is("new: free", x.free(), 7);
    }

    private static void letter() {
        LettersThatPass x = new LettersThatPass();
        DUE.refused(x, "letter -1", () -> x.letter(-1), -4);
        DUE.refused(x, "letter least int", () -> x.letter(Integer.MIN_VALUE), -4);
        DUE.refused(x, "letter 256", () -> x.letter(256), -6);
        DUE.refused(x, "letter greatest int", () -> x.letter(Integer.MAX_VALUE), -6);
        DUE.is("letter 0", x.letter(0), 1);
        DUE.is("letter 255", x.letter(255), 2);
        for (int k = 3; k <= 72; k++) {
            DUE.is("letter no. " + k, x.letter('a'), k);
        }
        DUE.refused(x, "letter no. 73", () -> x.letter('a'), -6);
        DUE.refused(x, "letter -1 with 72", () -> x.letter(-1), -4);
        DUE.is("count 1", x.count(1), 72);
    }

    private static void passes() {
        LettersThatPass x = new LettersThatPass();
        DUE.is("passes 0 5", x.passes(0, 5), 1);
        DUE.is("of 0", x.of(0, 1), 32);
        DUE.is("of 5", x.of(5, 1), 1);
        DUE.is("count 3", x.count(3), 1);
        DUE.is("passes 5 0", x.passes(5, 0), 0);
        DUE.is("of 0", x.of(0, 1), 0);
        DUE.is("of 5", x.of(5, 1), 0);
        int[][] wrong = {{-1, 0}, {0, -1}, {6, 0}, {0, 6}, {3, 3}, {7, 7}, {Integer.MIN_VALUE, 2}};
        for (int[] pair : wrong) {
            DUE.refused(x, "passes " + pair[0] + " " + pair[1], () -> x.passes(pair[0], pair[1]), -1);
        }
    }

    private static void ranks() {
        LettersThatPass x = new LettersThatPass();
        DUE.is("ranks 0 5", x.ranks(0, 5), 5);
        DUE.is("of 5", x.of(5, 0), 0);
        DUE.is("ranks 5 1", x.ranks(5, 1), 1);
        DUE.is("of 1", x.of(1, 0), 0);
        DUE.is("of 0", x.of(0, 0), 5);
        int[][] wrong = {{-1, 0}, {0, -1}, {6, 0}, {0, 6}, {3, 3}, {0, Integer.MAX_VALUE}};
        for (int[] pair : wrong) {
            DUE.refused(x, "ranks " + pair[0] + " " + pair[1], () -> x.ranks(pair[0], pair[1]), -1);
        }
    }

    private static void of() {
        LettersThatPass x = Due.with("ab,ac,<af");
        DUE.is("of 0 0", x.of(0, 0), 5);
        DUE.is("of 0 1", x.of(0, 1), 6);
        DUE.refused(x, "of -1 0", () -> x.of(-1, 0), -1);
        DUE.refused(x, "of 6 2", () -> x.of(6, 2), -1);
        DUE.refused(x, "of 0 2", () -> x.of(0, 2), -2);
        DUE.refused(x, "of 0 -1", () -> x.of(0, -1), -2);
    }

    private static void rules() {
        LettersThatPass x = new LettersThatPass();
        DUE.is("rules ab", Due.rules(x, "ab"), 1);
        DUE.is("letters are no more", x.count(1), 0);
        DUE.is("of 0", x.of(0, 1), 2);
        DUE.is("rules ba,<ab,<bc,fe", Due.rules(x, "ba,<ab,<bc,fe"), 4);
        DUE.is("ba undid ab", x.of(0, 1), 0);
        DUE.is("rank a", x.of(0, 0), 1);
        DUE.is("rank b", x.of(1, 0), 2);
        DUE.is("rank c", x.of(2, 0), 0);
        DUE.is("ef pass", x.of(4, 1), 32);
        DUE.is("two can be undone", x.count(4), 2);
        DUE.is("a text is undone at once", x.undo(), 1);
        DUE.is("rank a", x.of(0, 0), 0);
        DUE.is("of 0", x.of(0, 1), 2);
        DUE.is("24 rules", Due.rules(x, "cd,".repeat(23) + "<ab"), 24);
        DUE.is("23 times cd", x.of(2, 1), 8);
    }

    private static void rulesFaults() {
        String[] texts = {"", "a", "aa", "ab,", "ab,c", "ab,cc", "abc", "<", "<a", "<aa", "<<ab", "g", "ag", "ab;cd",
            "ab,,cd", ",", "ab,<", "a<b", "ab<cd", "A", "(ab)", "ab2", "\u0000", "ab,\u00ff", "ab,`a", "<ab,cd,ef,x"};
        int[] places = {0, 1, 1, 3, 4, 4, 2, 1, 2, 2, 1, 0, 1, 2, 3, 0, 4, 1, 2, 0, 0, 2, 0, 3, 3, 10};
        for (int k = 0; k < texts.length; k++) {
            LettersThatPass x = new LettersThatPass();
            DUE.is("rules " + texts[k], Due.rules(x, texts[k]), -1000 - places[k]);
            DUE.is("letters are no more " + texts[k], x.count(1), 0);
            DUE.is("no pairs " + texts[k], x.count(3), 0);
            DUE.is("rank of a " + texts[k], x.of(0, 0), 0);
            DUE.is("none to undo " + texts[k], x.count(4), 0);
            for (int what = 11; what <= 16; what++) {
                DUE.is("a fault isn't counted", x.count(what), 0);
            }
        }
        LettersThatPass x = new LettersThatPass();
        DUE.is("72 letters, something lacks", Due.rules(x, "ab,".repeat(24)), -1072);
    }

    private static void word() {
        String[][] pairs = {{"", ""}, {"a", "a"}, {"abcdef", "abcdef"}, {"a3", "aaa"}, {"a0", ""}, {"ab2", "abb"},
            {"(ab)2", "abab"}, {"(ab)2c", "ababc"}, {"()", ""}, {"()9", ""}, {"(a(b)2)2", "abbabb"}, {"a1b0c2", "acc"},
            {"(((((a)))))", "a"}, {"((((a2)2)2)1)", "aaaaaaaa"}, {"(a)(b)", "ab"}, {"(a9b9)0c", "c"}, {"((a9)9)0", ""},
            {"a(b(c)2)3", "abccbccbcc"}, {"f9e5", "fffffffffeeeee"}, {"(a9)0(b9)0a9b5", "aaaaaaaaabbbbb"},
            {"(a9b9)0(a9b9)0d", "d"}, {"a((b9c9)0d)3", "addd"}, {"(((((a)2)2)2)1)1", "aaaaaaaa"}};
        for (String[] pair : pairs) {
            LettersThatPass x = new LettersThatPass();
            DUE.is("word " + pair[0], Due.word(x, pair[0]), 0);
            DUE.is("letters are no more " + pair[0], x.count(1), 0);
            DUE.is("told " + pair[0], Due.told(x, 0), pair[1]);
            DUE.is("length " + pair[0], x.at(0, -1), pair[1].length());
        }
        LettersThatPass x = new LettersThatPass();
        DUE.is("72 letters", Due.word(x, "a0".repeat(29) + "abcdefabcdefab"), 0);
        DUE.is("72 letters told", Due.told(x, 0), "abcdefabcdefab");
    }

    private static void wordFaults() {
        Object[][] pairs = {{"g", 0}, {"ag", 1}, {"3", 0}, {"a12", 2}, {"(", 1}, {")", 0}, {"a)", 1}, {"(a", 2},
            {"(2)", 1}, {"((((((a", 5}, {"(((((a)))))(((((())))))", 16}, {"a b", 1}, {"A", 0}, {"(a))", 3}, {"a0 ", 2},
            {"`", 0}, {"\u0000", 0}, {"()23", 3}, {"((", 2}, {"a,b", 1}, {"<", 0}, {"((((()()(", 9}, {"a/", 1},
            {"a:", 1}, {"*", 0}, {"a0123", 2}, {"(((((()", 5}, {"aaaaaaaaaaaaaaag", 15}, {"(a9b9", 5}};
        for (Object[] pair : pairs) {
            fault((String) pair[0], -1000 - (Integer) pair[1]);
        }
        fault("a".repeat(72), -2000);
        fault("(".repeat(5) + "a".repeat(67), -1072);
    }

    private static void fault(String text, int want) {
        LettersThatPass x = new LettersThatPass();
        DUE.is("word " + text, Due.word(x, text), want);
        DUE.is("letters are no more " + text, x.count(1), 0);
        DUE.is("no words " + text, x.count(0), 0);
        for (int what = 11; what <= 16; what++) {
            DUE.is("a fault isn't counted", x.count(what), 0);
        }
    }

    private static void wordRoom() {
        LettersThatPass x = new LettersThatPass();
        DUE.is("15 letters", Due.word(x, "a9b6"), -2000);
        DUE.is("15 letters, plain", Due.word(x, "abcabcabcabcabc"), -2000);
        DUE.is("very many", Due.word(x, "(((((a9b9)9)9)9)9)9"), -2000);
        DUE.is("15 in brackets, then as many times 1", Due.word(x, "(a9b6)1"), -2000);
        DUE.is("15 and nothing", Due.word(x, "a9b6(a9)0"), -2000);
        DUE.is("14", Due.word(x, "(abcdefa)2"), 0);
        DUE.is("very many, none taken", Due.word(x, "(((((a9b9)9)9)9)9)0c"), 1);
        DUE.is("told", Due.told(x, 1), "c");
        for (int k = 2; k < 5; k++) {
            DUE.is("word no. " + k, x.word(), k);
        }
        DUE.is("a sixth", Due.word(x, "a"), -2000);
        DUE.is("a sixth with a fault", Due.word(x, "ag"), -1001);
        DUE.is("letters are no more", x.count(1), 0);
        DUE.is("five", x.count(0), 5);
        DUE.is("not counted", x.count(16), 0);
    }

    private static void at() {
        LettersThatPass x = Due.with("", "abf", "");
        DUE.is("at 0 -1", x.at(0, -1), 3);
        DUE.is("at 0 0", x.at(0, 0), 0);
        DUE.is("at 0 2", x.at(0, 2), 5);
        DUE.is("at 0 3", x.at(0, 3), -9);
        DUE.is("at 0 greatest", x.at(0, Integer.MAX_VALUE), -9);
        DUE.is("at 1 -1", x.at(1, -1), 0);
        DUE.is("at 1 0", x.at(1, 0), -9);
        DUE.refused(x, "at 2 -2", () -> x.at(2, -2), -1);
        DUE.refused(x, "at -1 0", () -> x.at(-1, 0), -1);
        DUE.refused(x, "at 0 -2", () -> x.at(0, -2), -4);
    }

    private static void drop() {
        LettersThatPass x = Due.with("", "a", "b");
        DUE.is("drop", x.drop(), 1);
        DUE.refused(x, "at 1", () -> x.at(1, 0), -1);
        DUE.is("a word anew", Due.word(x, "cd"), 1);
        DUE.is("told", Due.told(x, 1), "cd");
        DUE.is("drop", x.drop(), 1);
        DUE.is("drop", x.drop(), 0);
        DUE.refused(x, "drop", x::drop, -3);
    }
}
