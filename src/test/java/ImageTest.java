/** Promises 36 to 39. */
public final class ImageTest {
    private static final Due DUE = new Due("ImageTest");

    public static void main(String[] args) {
        undo();
        undoEight();
        image();
        on();
        count();
        DUE.end();
    }

    private static void undo() {
        LettersThatPass x = new LettersThatPass();
        DUE.refused(x, "none to undo", x::undo, -3);
        x.passes(0, 1);
        x.ranks(2, 3);
        Due.rules(x, "ab,cd,<ef");
        Due.word(x, "abc");
        DUE.is("three", x.count(4), 3);
        DUE.is("undo the text", x.undo(), 2);
        DUE.is("ab pass again", x.of(0, 1), 2);
        DUE.is("cd don't", x.of(2, 1), 0);
        DUE.is("rank of e", x.of(4, 0), 4);
        DUE.is("rank of c", x.of(2, 0), 3);
        DUE.is("undo the ranks", x.undo(), 1);
        DUE.is("rank of c", x.of(2, 0), 2);
        DUE.is("undo the passing", x.undo(), 0);
        DUE.is("of a", x.of(0, 1), 0);
        DUE.is("words stay", x.count(0), 1);
        DUE.refused(x, "none any more", x::undo, -3);
        x.passes(0, 0);
        Due.rules(x, "aa");
        DUE.is("refusals and faults can't be undone", x.count(4), 0);
    }

    private static void undoEight() {
        LettersThatPass x = new LettersThatPass();
        for (int b = 1; b <= 5; b++) {
            x.passes(0, b);
        }
        for (int b = 2; b <= 4; b++) {
            x.passes(1, b);
        }
        DUE.is("eight", x.count(4), 8);
        x.passes(1, 5);
        DUE.is("a ninth", x.count(4), 8);
        for (int k = 7; k >= 0; k--) {
            DUE.is("undo to " + k, x.undo(), k);
        }
        DUE.is("the oldest stays", x.of(0, 1), 2);
        DUE.refused(x, "no more", x::undo, -3);
        x.ranks(0, 1);
        DUE.is("one anew", x.count(4), 1);
        DUE.is("undone", x.undo(), 0);
        DUE.is("rank", x.of(0, 0), 0);
    }

    private static void image() {
        LettersThatPass x = new LettersThatPass();
        DUE.is("image of none", x.image(), 0);
        Due.word(x, "ab");
        DUE.is("image of one", x.image(), 1);
        x.drop();
        DUE.is("the later image counts", x.on(), 1);
        DUE.is("told", Due.told(x, 0), "ab");
    }

    private static void on() {
        LettersThatPass x = Due.with("ab,<cd", "abc", "");
        DUE.refused(x, "no image", x::on, -3);
        DUE.is("image", x.image(), 2);
        DUE.is("what can be undone stays", x.count(4), 1);
        Due.rules(x, "ab,ef,<ab");
        x.drop();
        x.drop();
        Due.word(x, "ffff");
        Due.word(x, "e");
        Due.word(x, "d");
        x.list(0, 2);
        x.put(0, 1, 5);
        Due.type(x, "xyz");
        DUE.is("on", x.on(), 2);
        DUE.is("word 0", Due.told(x, 0), "abc");
        DUE.is("word 1", Due.told(x, 1), "");
        DUE.is("ab pass", x.of(0, 1), 2);
        DUE.is("ef don't", x.of(4, 1), 0);
        DUE.is("rank of a", x.of(0, 0), 0);
        DUE.is("rank of c", x.of(2, 0), 3);
        DUE.is("on leaves none", x.count(4), 0);
        DUE.is("letters stay", x.count(1), 3);
        DUE.is("lists stay", x.look(0, 1), 5);
        DUE.refused(x, "none to undo", x::undo, -3);
        x.passes(0, 1);
        x.drop();
        x.drop();
        Due.word(x, "");
        DUE.is("on once more", x.on(), 2);
        DUE.is("as then", x.of(0, 1), 2);
        DUE.is("as then", Due.told(x, 0), "abc");
    }

    private static void count() {
        LettersThatPass x = Due.with("ab,cd,ef,af", "abc", "", "ff");
        Due.type(x, "abcd");
        x.ranks(0, 1);
        DUE.is("words", x.count(0), 3);
        DUE.is("letters", x.count(1), 4);
        DUE.is("LETTERS", x.count(2), 5);
        DUE.is("pairs", x.count(3), 4);
        DUE.is("undone", x.count(4), 2);
        x.at(9, 0);
        x.of(0, 9);
        x.of(0, 9);
        x.on();
        x.at(0, -9);
        x.letter(999);
        DUE.is("count 11", x.count(11), 1);
        DUE.is("count 12", x.count(12), 2);
        DUE.is("count 13", x.count(13), 1);
        DUE.is("count 14", x.count(14), 1);
        DUE.is("count 15", x.count(15), 0);
        DUE.is("count 16", x.count(16), 1);
        int[] others = {-1, 5, 6, 10, 17, 18, Integer.MIN_VALUE, Integer.MAX_VALUE};
        for (int what : others) {
            DUE.is("count " + what, x.count(what), -9);
        }
        DUE.is("another what isn't counted", x.count(12), 2);
    }
}
