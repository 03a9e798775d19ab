/** Promises 24 to 29. */
public final class TurnedTest {
    private static final Due DUE = new Due("TurnedTest");

    public static void main(String[] args) {
        turned();
        turn();
        apart();
        afterChanges();
        unlike();
        free();
        lots();
        DUE.end();
    }

    private static void turned() {
        LettersThatPass x = Due.with("", "abcdefa", "aaa", "", "abab", "a8");
        DUE.is("7 letters", x.turned(0), 7);
        DUE.is("aaa", x.turned(1), 1);
        DUE.is("none", x.turned(2), 1);
        DUE.is("abab", x.turned(3), 2);
        DUE.refused(x, "8 letters", () -> x.turned(4), -6);
        DUE.refused(x, "turned 5", () -> x.turned(5), -1);
        LettersThatPass y = Due.with("ab,ac,ad,ae,bc,bd,be,cd,ce,de", "bcdefaa");
        DUE.is("the most that there can be", y.turned(0), 48);
        DUE.is("the last of them", y.turn(0, 47, 0), 5);
        DUE.is("behind the last", y.turn(0, 48, 0), -9);
    }

    private static void turn() {
        LettersThatPass x = Due.with("ab", "cab", "", "a8");
        DUE.is("turned", x.turned(0), 4);
        String[] due = {"abc", "acb", "bca", "cab"};
        for (int k = 0; k < due.length; k++) {
            int number = k;
            DUE.is("turn " + k, Due.spell(i -> x.turn(0, number, i)), due[k]);
        }
        x.ranks(0, 1);
        String[] byRanks = {"acb", "bac", "bca", "cba"};
        for (int k = 0; k < byRanks.length; k++) {
            int number = k;
            DUE.is("turn by numbers, least by ranks " + k, Due.spell(i -> x.turn(0, number, i)), byRanks[k]);
        }
        DUE.is("turn k beyond", x.turn(0, 4, 0), -9);
        DUE.is("turn k greatest", x.turn(0, Integer.MAX_VALUE, 0), -9);
        DUE.is("turn i beyond", x.turn(0, 0, 3), -9);
        DUE.is("turn of none", x.turn(1, 0, 0), -9);
        DUE.refused(x, "turn 3", () -> x.turn(3, -1, -1), -1);
        DUE.refused(x, "turn k -1", () -> x.turn(2, -1, 0), -4);
        DUE.refused(x, "turn i -1", () -> x.turn(2, 0, -1), -4);
        DUE.refused(x, "turn 8 letters", () -> x.turn(2, 0, 0), -6);
    }

    private static void apart() {
        LettersThatPass x = Due.with("", "abcdefa", "fabcdea", "aabcdef", "abc", "a8");
        DUE.is("apart 0 0", x.apart(0, 0), 0);
        DUE.is("apart 0 2", x.apart(0, 2), 6);
        DUE.is("apart 2 0", x.apart(2, 0), 1);
        DUE.is("apart 0 1", x.apart(0, 1), -9);
        DUE.is("apart 0 3", x.apart(0, 3), -9);
        DUE.refused(x, "apart 5", () -> x.apart(5, 4), -1);
        DUE.refused(x, "apart -1", () -> x.apart(4, -1), -1);
        DUE.refused(x, "apart 8 letters", () -> x.apart(4, 0), -6);
        DUE.refused(x, "apart 8 letters", () -> x.apart(0, 4), -6);
        LettersThatPass y = Due.with("ab", "a", "aa", "", "cab", "bca");
        DUE.is("a aa", y.apart(0, 1), -9);
        DUE.is("none a", y.apart(2, 0), -9);
        DUE.is("none none", y.apart(2, 2), 0);
        DUE.is("cab bca", y.apart(3, 4), 2);
    }

    private static void afterChanges() {
        LettersThatPass x = Due.with("", "abc", "acb");
        DUE.is("none pass", x.turned(0), 3);
        DUE.is("apart", x.apart(0, 1), -9);
        x.passes(0, 1);
        DUE.is("ab pass", x.turned(0), 4);
        DUE.is("apart", x.apart(0, 1), 1);
        x.undo();
        DUE.is("undone", x.turned(0), 3);
        Due.rules(x, "ab,cd,ef");
        DUE.is("each passes another than before", x.turned(0), 4);
        x.ranks(0, 1);
        DUE.is("ranks alone", Due.spell(i -> x.turn(0, 1, i)), "bac");
        x.undo();
        DUE.is("ranks undone", Due.spell(i -> x.turn(0, 0, i)), "abc");
        x.undo();
        x.drop();
        x.drop();
        Due.word(x, "aab");
        DUE.is("another word 0", Due.spell(i -> x.turn(0, 2, i)), "baa");
        x.image();
        Due.rules(x, "ab");
        DUE.is("ab pass", x.turned(0), 1);
        x.on();
        DUE.is("on: they don't", x.turned(0), 3);
        x.drop();
        Due.word(x, "aabb");
        DUE.is("a longer word 0", x.turned(0), 4);
        x.on();
        DUE.is("on: the word is as then", x.turned(0), 3);
        DUE.is("on: the word is as then", Due.spell(i -> x.turn(0, 0, i)), "aab");
    }

    private static void unlike() {
        LettersThatPass x = new LettersThatPass();
        DUE.is("unlike 0 1", x.unlike(0, 1), 1);
        DUE.is("unlike 12 6", x.unlike(12, 6), 2176782336L);
        DUE.is("unlike 12 1", x.unlike(12, 1), 1);
        Due.rules(x, "ab,ac,ad,ae,af,bc,bd,be,bf,cd,ce,cf,de,df,ef");
        DUE.is("all pass", x.unlike(12, 6), 6188);
        DUE.is("all pass, 2 letters", x.unlike(3, 2), 4);
        x.undo();
        x.passes(0, 5);
        DUE.is("a, b alone", x.unlike(2, 2), 4);
        DUE.is("with f", x.unlike(2, 6), 35);
        DUE.is("without f", x.unlike(2, 5), 25);
        DUE.refusedFar(x, "n -1", () -> x.unlike(-1, 7), -4);
        DUE.refusedFar(x, "m 0", () -> x.unlike(13, 0), -4);
        DUE.refusedFar(x, "n 13", () -> x.unlike(13, 1), -6);
        DUE.refusedFar(x, "m 7", () -> x.unlike(0, 7), -6);
    }

    private static void free() {
        LettersThatPass x = new LettersThatPass();
        DUE.is("none pass", x.free(), 7);
        Due.rules(x, "ab,bc,ac");
        DUE.is("three pass", x.free(), 11);
        Due.rules(x, "ad,ae,af,bd,be,bf,cd,ce,cf,de,df,ef");
        DUE.is("all pass", x.free(), 64);
    }

    private static void lots() {
        LettersThatPass x = Due.with("ab", "ab", "", "a", "ac", "abababababab");
        DUE.is("once", x.lots(0, 1, 5, 0), 1);
        DUE.is("once: places", x.lots(0, 1, 5, 1), 2);
        DUE.is("twice: back again", x.lots(0, 2, 5, 1), 0);
        DUE.is("60 times", x.lots(0, 60, 5, 0), 60);
        DUE.is("they don't pass", x.lots(3, 60, 5, 0), 0);
        DUE.is("in thought", Due.told(x, 0), "ab");
        for (int z = -3; z <= 3; z++) {
            long[] due = lotsByHand("abababababab", 17, z);
            DUE.is("lots, seed " + z, x.lots(4, 17, z, 0), due[0]);
            DUE.is("lots, places, seed " + z, x.lots(4, 17, z, 1), due[1]);
        }
        DUE.refused(x, "lots 5", () -> x.lots(5, 0, 1, 2), -1);
        DUE.refused(x, "lots n 0", () -> x.lots(1, 0, 1, 2), -4);
        DUE.refused(x, "lots n 61", () -> x.lots(1, 61, 1, 2), -6);
        DUE.refused(x, "lots what 2", () -> x.lots(1, 1, 1, 2), -2);
        DUE.refused(x, "lots of none", () -> x.lots(1, 1, 1, 1), -3);
        DUE.refused(x, "lots of one", () -> x.lots(2, 1, 1, 0), -3);
    }

    /** A DRAW in longs: what int arithmetic wraps is cut off here. */
    private static long[] lotsByHand(String word, int n, int seed) {
        StringBuilder row = new StringBuilder(word);
        long z = seed & 0xffffffffL;
        long times = 0;
        for (int k = 0; k < n; k++) {
            z = (z * 1664525L + 1013904223L) % 4294967296L;
            int place = (int) (z % 2147483648L / 256 % (word.length() - 1));
            char first = row.charAt(place);
            char next = row.charAt(place + 1);
            if (first != next) {
                row.setCharAt(place, next);
                row.setCharAt(place + 1, first);
                times++;
            }
        }
        long places = 0;
        for (int k = 0; k < word.length(); k++) {
            places += row.charAt(k) == word.charAt(k) ? 0 : 1;
        }
        return new long[] {times, places};
    }
}
