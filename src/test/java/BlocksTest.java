/** Promises 10 to 16. */
public final class BlocksTest {
    private static final Due DUE = new Due("BlocksTest");
    private static final String ALL_PASS = "ab,ac,ad,ae,af,bc,bd,be,bf,cd,ce,cf,de,df,ef";

    public static void main(String[] args) {
        alike();
        blocks();
        least();
        copies();
        seen();
        spread();
        odds();
        DUE.end();
    }

    private static void alike() {
        LettersThatPass x = Due.with("ac,bd", "acbd", "cabd", "cadb", "abcd", "");
        DUE.is("alike 0 0", x.alike(0, 0), 1);
        DUE.is("alike 0 1", x.alike(0, 1), 1);
        DUE.is("alike 1 0", x.alike(1, 0), 1);
        DUE.is("alike 0 2", x.alike(0, 2), 1);
        DUE.is("alike 0 3", x.alike(0, 3), 0);
        DUE.is("alike 0 4", x.alike(0, 4), 0);
        DUE.is("alike 4 4", x.alike(4, 4), 1);
        DUE.refused(x, "alike 5 0", () -> x.alike(5, 0), -1);
        DUE.refused(x, "alike 0 -1", () -> x.alike(0, -1), -1);
        x.passes(1, 2);
        DUE.is("alike 0 3 with bc", x.alike(0, 3), 1);
    }

    private static void blocks() {
        LettersThatPass x = Due.with("ac,bd", "acbdaa", "", "aaaaaaaaaaaaaa");
        DUE.is("blocks 0 -1", x.blocks(0, -1), 4);
        DUE.is("blocks 0 0", x.blocks(0, 0), 5);
        DUE.is("blocks 0 1", x.blocks(0, 1), 10);
        DUE.is("blocks 0 2", x.blocks(0, 2), 1);
        DUE.is("blocks 0 3", x.blocks(0, 3), 1);
        DUE.is("blocks 0 4", x.blocks(0, 4), 0);
        DUE.is("blocks 0 greatest", x.blocks(0, Integer.MAX_VALUE), 0);
        DUE.is("blocks 1 -1", x.blocks(1, -1), 0);
        DUE.is("blocks 1 0", x.blocks(1, 0), 0);
        DUE.is("blocks 2 -1", x.blocks(2, -1), 14);
        DUE.is("blocks 2 13", x.blocks(2, 13), 1);
        DUE.refused(x, "blocks 3 -2", () -> x.blocks(3, -2), -1);
        DUE.refused(x, "blocks 0 -2", () -> x.blocks(0, -2), -4);
    }

    private static void least() {
        LettersThatPass x = Due.with("ac,bd,ad", "cadb", "", "dcba");
        DUE.is("least", Due.least(x, 0, 0), "acbd");
        DUE.is("last", Due.least(x, 0, 1), "cdab");
        DUE.is("least of none", x.least(1, 0, 0), -9);
        DUE.is("least beyond", x.least(0, 4, 0), -9);
        DUE.is("least of dcba", Due.least(x, 2, 0), "dcba");
        x.ranks(0, 2);
        DUE.is("least by ranks", Due.least(x, 0, 0), "cabd");
        DUE.is("the word stays", Due.told(x, 0), "cadb");
        DUE.refused(x, "least 3 -1 2", () -> x.least(3, -1, 2), -1);
        DUE.refused(x, "least 0 -1 2", () -> x.least(0, -1, 2), -4);
        DUE.refused(x, "least 0 0 2", () -> x.least(0, 0, 2), -2);
        DUE.refused(x, "least 0 99 -1", () -> x.least(0, 99, -1), -2);
    }

    private static void copies() {
        LettersThatPass x = Due.with("", "abcdefabcdefab", "", "a9a5");
        DUE.is("none pass", x.copies(0), 1);
        DUE.is("empty", x.copies(1), 1);
        Due.rules(x, ALL_PASS);
        DUE.is("all pass, 14", x.copies(0), 151351200L);
        DUE.is("one letter", x.copies(2), 1);
        DUE.is("empty", x.copies(1), 1);
        DUE.refusedFar(x, "copies 3", () -> x.copies(3), -1);
        DUE.refusedFar(x, "copies -1", () -> x.copies(-1), -1);
        LettersThatPass y = Due.with("ab", "a7b7", "abcab", "(ab)3");
        DUE.is("a7b7", y.copies(0), 3432);
        DUE.is("abcab", y.copies(1), 4);
        DUE.is("(ab)3", y.copies(2), 20);
    }

    private static void seen() {
        LettersThatPass x = Due.with("ab", "abcabf", "");
        DUE.is("seen a b", Due.spell(i -> x.seen(0, 0, 1, i)), "abab");
        DUE.is("seen b a", Due.spell(i -> x.seen(0, 1, 0, i)), "abab");
        DUE.is("seen a f", Due.spell(i -> x.seen(0, 0, 5, i)), "aaf");
        DUE.is("seen a a", Due.spell(i -> x.seen(0, 0, 0, i)), "aa");
        DUE.is("seen d e", x.seen(0, 3, 4, 0), -9);
        DUE.is("seen of none", x.seen(1, 0, 1, 0), -9);
        DUE.refused(x, "seen 2", () -> x.seen(2, 0, 1, -1), -1);
        DUE.refused(x, "seen a -1", () -> x.seen(0, -1, 1, -1), -1);
        DUE.refused(x, "seen b 6", () -> x.seen(0, 1, 6, -1), -1);
        DUE.refused(x, "seen i -1", () -> x.seen(0, 0, 1, -1), -4);
    }

    private static void spread() {
        LettersThatPass x = Due.with("ab,ac,bd", "abcda", "", "a9a5");
        DUE.is("a first least", x.spread(0, 0, 0, 0), 0);
        DUE.is("a first greatest", x.spread(0, 0, 0, 1), 2);
        DUE.is("a second least", x.spread(0, 0, 1, 0), 4);
        DUE.is("a second greatest", x.spread(0, 0, 1, 1), 4);
        DUE.is("a third", x.spread(0, 0, 2, 0), -9);
        DUE.is("b least", x.spread(0, 1, 0, 0), 0);
        DUE.is("b greatest", x.spread(0, 1, 0, 1), 1);
        DUE.is("f", x.spread(0, 5, 0, 0), -9);
        DUE.is("of none", x.spread(1, 0, 0, 1), -9);
        DUE.is("a no. 13", x.spread(2, 0, 13, 0), 13);
        DUE.is("a no. 14", x.spread(2, 0, 14, 1), -9);
        DUE.is("a no. greatest", x.spread(2, 0, Integer.MAX_VALUE, 1), -9);
        DUE.refused(x, "spread word", () -> x.spread(3, 0, -1, 2), -1);
        DUE.refused(x, "spread letter", () -> x.spread(0, 6, -1, 2), -1);
        DUE.refused(x, "spread n", () -> x.spread(0, 0, -1, 2), -4);
        DUE.refused(x, "spread what", () -> x.spread(0, 5, 0, 2), -2);
        DUE.refused(x, "spread what -1", () -> x.spread(0, 0, 0, -1), -2);
    }

    private static void odds() {
        LettersThatPass x = Due.with(ALL_PASS, "abcdef", "", "def", "adef", "cd");
        long[][] due = {{1, 2}, {0, 1}, {0, 1}, {1, 4}, {1, 2}};
        for (int word = 0; word < due.length; word++) {
            DUE.is("odds above " + word, x.odds(word, 0), due[word][0]);
            DUE.is("odds below " + word, x.odds(word, 1), due[word][1]);
        }
        x.ranks(0, 3);
        DUE.is("odds of def by rank", x.odds(2, 0), 1);
        DUE.is("odds of def by rank", x.odds(2, 1), 3);
        DUE.refusedFar(x, "odds 5 2", () -> x.odds(5, 2), -1);
        DUE.refusedFar(x, "odds 0 2", () -> x.odds(0, 2), -2);
        DUE.refusedFar(x, "odds 1 -1", () -> x.odds(1, -1), -2);
        LettersThatPass y = Due.with(ALL_PASS, "abcde", "abce");
        DUE.is("3 by 5", y.odds(0, 0) * 10 + y.odds(0, 1), 35);
        DUE.is("3 by 4", y.odds(1, 0) * 10 + y.odds(1, 1), 34);
    }
}
