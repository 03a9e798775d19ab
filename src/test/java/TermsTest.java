import java.io.IOException;
import java.math.BigInteger;
import java.nio.file.Files;
import java.nio.file.Path;

/**
 * Each sentence of what the class is and of its terms, at its edges; that none is left out is tested against the
 * document.
 */
public final class TermsTest {
    private static final Sentences DOC = new Sentences("TermsTest");
    private static final String ALL_PASS = "ab,ac,ad,ae,af,bc,bd,be,bf,cd,ce,cf,de,df,ef";
    private static final int MIN = Integer.MIN_VALUE;
    private static final int MAX = Integer.MAX_VALUE;

    public static void main(String[] args) throws IOException {
        tour();
        calls();
        letters();
        passingItself();
        order();
        words();
        places();
        alike();
        readyAndBlocks();
        taking();
        copies();
        seen();
        spread();
        begins();
        common();
        productAndPower();
        changes();
        root();
        parts();
        moves();
        turned();
        apart();
        unlike();
        free();
        wordTexts();
        wordItems();
        wordDigits();
        wordsOneByOne();
        wordBrackets();
        wordFaults();
        wordRoom();
        ruleTexts();
        ruleFaults();
        lists();
        judged();
        fromAList();
        lots();
        draws();
        lotsThatPass();
        odds();
        undone();
        undoneEight();
        theImage();
        fractions();
        refusals();
        nobodyAndOther();
        stateBelowAndRoom();
        longRefusals();
        notCounted();
        groups();
        DOC.whole("What it is");
        DOC.whole("Terms");
        DOC.end();
    }

    private static void tour() {
        DOC.says("What it is", "Letters some of which may pass: words that are alike by changing neighbours that pass, their"
            + " blocks, least and last words by an order of the letters, how many are alike, what is seen of two letters"
            + " alone;");
        LettersThatPass x = Due.with("", "cacab", "acacb", "aa");
        DOC.is("they don't PASS", x.alike(0, 1), 0);
        DOC.is("a and c PASS", x.passes(0, 2), 1);
        DOC.is("ALIKE then", x.alike(0, 1), 1);
        DOC.is("BLOCKS", x.blocks(0, -1), 3);
        DOC.is("BLOCK 0", x.blocks(0, 0), 1 + 4);
        DOC.is("LEAST WORD", Due.least(x, 0, 0), "aaccb");
        DOC.is("LAST WORD", Due.least(x, 0, 1), "ccaab");
        DOC.is("COPIES", x.copies(0), 6);
        DOC.is("SEEN", Due.spell(i -> x.seen(0, 0, 1, i)), "aab");
        DOC.says("What it is", "beginnings, what is left, common ones, products, powers, roots;");
        DOC.is("BEGINS", x.begins(0, 2, -1), 1);
        DOC.is("REST", Due.spell(i -> x.begins(0, 2, i)), "ccb");
        DOC.is("COMMON", Due.spell(i -> x.common(0, 2, i)), "aa");
        DOC.is("PRODUCT", x.product(2, 0), 3);
        DOC.is("POWER", x.power(2, 3), 4);
        DOC.is("PRODUCT, told", Due.told(x, 3), "aacacab");
        DOC.is("ROOT", x.root(4, -1), 6);
        tourGoesOn(x);
    }

    private static void tourGoesOn(LettersThatPass x) {
        DOC.says("What it is", "words turned about letter by letter, how many, how far apart;");
        x.drop();
        Due.word(x, "bcaca");
        DOC.is("TURNED: 0 to 2 of each a and c are ahead of b", x.turned(0), 9);
        DOC.is("APART", x.apart(0, 4), 4);
        DOC.says("What it is", "parts that hang together, words that pass one another whole;");
        DOC.is("PARTS", x.parts(0, -1), 1);
        DOC.is("the one of a", x.parts(0, 0), 7);
        DOC.is("CHANGE", x.changes(2, 3), 0);
        DOC.says("What it is", "how many unlike words there are;");
        DOC.is("UNLIKE: ac and ca are one", x.unlike(2, 3), 8);
        DOC.says("What it is", "words with brackets read from letters, lists, lots, odds, changes undone, an image.");
        x.drop();
        DOC.is("brackets", Due.word(x, "((ca)2b)"), 4);
        DOC.is("told", Due.told(x, 4), "cacab");
        x.list(2, 7);
        DOC.is("LISTS", x.lays(2, 1, 4), 5);
        DOC.is("laid", x.look(2, 5), 1);
        DOC.is("LOTS", x.lots(2, 60, 1, 0), 0);
        DOC.is("ODDS", x.odds(0, 0) + x.odds(0, 1), 2);
        DOC.is("THE IMAGE", x.image(), 5);
        DOC.is("UNDONE", x.undo(), 0);
        DOC.is("not ALIKE any more", x.alike(0, 1), 0);
        DOC.is("ON", x.on(), 5);
        DOC.is("ALIKE again", x.alike(0, 1), 1);
    }

    private static void calls() {
        DOC.says("What it is", "An object is used for at most 512 calls after it has been made; what later calls answer is"
            + " free.");
        LettersThatPass x = new LettersThatPass();
        for (int k = 1; k < 512; k++) {
            x.at(0, 0);
        }
        DOC.is("the 512th call tells of 511 REFUSALS", x.count(11), 511);
        LettersThatPass y = new LettersThatPass();
        for (int k = 1; k <= 511; k++) {
            DOC.is("passes, call " + k, y.passes(4, 5), k % 2);
        }
        DOC.is("the 512th call", y.undo(), 7);
    }

    private static void letters() {
        DOC.says("What it is", "LETTERS are 0 ..");
        DOC.says("Terms", "5 (a .. f in texts).");
        LettersThatPass x = Due.with("", "abcdef");
        for (int a = 0; a < 6; a++) {
            DOC.is("LETTER in the text, " + a, x.at(0, a), a);
            DOC.is("LETTER " + a, x.of(a, 0), a);
        }
        DOC.is("LETTER -1", x.of(-1, 0), -1);
        DOC.is("LETTER 6", x.of(6, 0), -1);
        DOC.is("the sign ahead of a", Due.word(x, "`"), -1000);
        DOC.is("the sign behind f", Due.word(x, "g"), -1000);
        DOC.is("the sign ahead of a in RULES", Due.rules(x, "`b"), -1000);
        DOC.is("the sign behind f in RULES", Due.rules(x, "fg"), -1001);
        DOC.is("f in RULES", Due.rules(x, "fa"), 1);
    }

    private static void passingItself() {
        DOC.says("Terms", "PASS: two unlike LETTERS may PASS one another, or not (at first); a LETTER doesn't PASS itself.");
        LettersThatPass x = new LettersThatPass();
        for (int a = 0; a < 6; a++) {
            DOC.is("at first, " + a, x.of(a, 1), 0);
        }
        Due.rules(x, ALL_PASS);
        for (int a = 0; a < 6; a++) {
            DOC.is("all but itself, " + a, x.of(a, 1), 63 - (1 << a));
        }
        DOC.is("all pairs", x.count(3), 15);
        Due.word(x, "aa");
        DOC.is("aa: BLOCKS", x.blocks(0, -1), 2);
        DOC.is("aa: PARTS", x.parts(0, -1), 1);
        DOC.is("aa: LOTS", x.lots(0, 60, 1, 0), 0);
        DOC.is("aa: SPREAD", x.spread(0, 0, 0, 1), 0);
    }

    private static void order() {
        DOC.says("Terms", "THE ORDER: each LETTER has a RANK 0 .. 5 of its own (its number at first).");
        LettersThatPass x = new LettersThatPass();
        for (int a = 0; a < 6; a++) {
            DOC.is("at first", x.of(a, 0), a);
        }
        int seed = 7;
        for (int k = 0; k < 40; k++) {
            seed = seed * 1103515245 + 12345;
            int a = (seed >>> 16) % 6;
            x.ranks(a, (a + 1 + (seed >>> 8 & 0xff) % 5) % 6);
            int met = 0;
            for (int b = 0; b < 6; b++) {
                met |= 1 << x.of(b, 0);
            }
            DOC.is("all six RANKS once, " + k, met, 63);
        }
    }

    private static void words() {
        DOC.says("Terms", "WORDS have numbers, 0 .. as they come, 5 at most:");
        LettersThatPass x = new LettersThatPass();
        x.list(0, 1);
        DOC.is("by letters", x.word(), 0);
        DOC.is("by a PRODUCT", x.product(0, 0), 1);
        DOC.is("by a POWER", x.power(1, 3), 2);
        DOC.is("from a LIST", x.from(0, 0, 1), 3);
        DOC.is("by letters", Due.word(x, "b"), 4);
        DOC.is("a sixth by letters", Due.word(x, "c"), -2000);
        DOC.is("a sixth by a PRODUCT", x.product(0, 0), -6);
        DOC.is("a sixth by a POWER", x.power(0, 0), -6);
        DOC.is("a sixth from a LIST", x.from(0, 0, 1), -6);
        DOC.is("five", x.count(0), 5);
        DOC.is("WORD 4 stays", Due.told(x, 4), "b");
        DOC.is("WORD 5", x.at(5, -1), -1);
        DOC.is("one goes", x.drop(), 4);
        DOC.is("its number is free", Due.word(x, "c"), 4);
    }

    private static void places() {
        DOC.says("Terms", "rows of 0 .. 14 LETTERS, told by places from 0 on.");
        LettersThatPass x = Due.with("", "", "abcdefabcdefab");
        x.list(0, 15);
        DOC.is("none", x.at(0, -1), 0);
        DOC.is("no place 0", x.at(0, 0), -9);
        DOC.is("14", x.at(1, -1), 14);
        DOC.is("place 0", x.at(1, 0), 0);
        DOC.is("place 13", x.at(1, 13), 1);
        DOC.is("no place 14", x.at(1, 14), -9);
        DOC.is("15 by letters", Due.word(x, "abcdefabcdefabc"), -2000);
        DOC.is("15 by a POWER", Due.word(x, "abcde") + x.power(2, 3), 2 - 6);
        DOC.is("15 by a PRODUCT", Due.word(x, "f") + x.product(1, 3), 3 - 6);
        DOC.is("15 by a PRODUCT, turned round", x.product(3, 1), -6);
        DOC.is("15 from a LIST", x.from(0, 0, 15), -6);
        DOC.is("14 from a LIST", x.from(0, 0, 14), 4);
    }

    private static void alike() {
        DOC.says("Terms", "Two WORDS are ALIKE, if the one becomes the other by changing two neighbours that PASS, any number of"
            + " times (none, too).");
        LettersThatPass x = Due.with("ab", "a7b7", "b7a7", "ca", "ac", "");
        DOC.is("by 49 changes", x.alike(0, 1), 1);
        DOC.is("back again", x.alike(1, 0), 1);
        DOC.is("none pass in it, itself", x.alike(2, 2), 1);
        DOC.is("those don't PASS", x.alike(2, 3), 0);
        DOC.is("empty, itself", x.alike(4, 4), 1);
        DOC.is("empty, another", x.alike(4, 2), 0);
        DOC.is("another, empty", x.alike(2, 4), 0);
        LettersThatPass y = Due.with(ALL_PASS, "abcdefabcdefab", "bafedcbafedcba", "bafedcbafedcbb", "abcdefabcdefa");
        DOC.is("14 LETTERS", y.alike(0, 1), 1);
        DOC.is("14 other LETTERS", y.alike(0, 2), 0);
        DOC.is("13 of them", y.alike(0, 3), 0);
        DOC.is("one more", y.alike(3, 0), 0);
    }

    private static void readyAndBlocks() {
        DOC.says("Terms", "A place of a WORD is READY, if its LETTER PASSES each LETTER ahead of it.");
        LettersThatPass x = Due.with("ab,bc", "cba", "abc", "", "bbbbbbbbbbbbbb");
        DOC.is("the first place is", x.blocks(0, 0), 4 + 2);
        DOC.is("not if one ahead doesn't PASS", x.blocks(1, 0), 1 + 2);
        DOC.is("no place", x.blocks(2, 0), 0);
        DOC.says("Terms", "BLOCKS: the LETTERS at READY places are BLOCK 0; with these places taken away those at READY"
            + " places BLOCK 1; and so on.");
        DOC.is("the second", x.blocks(0, 1), 1);
        DOC.is("two in all", x.blocks(0, -1), 2);
        DOC.is("no third", x.blocks(0, 2), 0);
        DOC.is("none at all", x.blocks(2, -1), 0);
        DOC.is("14", x.blocks(3, -1), 14);
        DOC.is("the last of 14", x.blocks(3, 13), 2);
        DOC.is("no 15th", x.blocks(3, 14), 0);
        LettersThatPass y = Due.with(ALL_PASS, "abcdef");
        DOC.is("all at once", y.blocks(0, 0), 63);
        DOC.is("one BLOCK", y.blocks(0, -1), 1);
    }

    private static void taking() {
        DOC.says("Terms", "TAKING: again and again, of the READY places, the one whose LETTER has the least RANK is taken (away, the"
            + " others stay in order): LETTERS as they are taken are its LEAST WORD;");
        LettersThatPass x = Due.with("ac,bc", "cba", "", "cbacba");
        DOC.is("not the least of all ALIKE, but READY ones alone", Due.least(x, 0, 0), "bac");
        DOC.is("of an empty WORD", Due.least(x, 1, 0), "");
        DOC.is("again and again", Due.least(x, 2, 0), "babacc");
        DOC.says("Terms", "by the greatest RANK: its LAST WORD.");
        DOC.is("LAST WORD", Due.least(x, 0, 1), "cba");
        DOC.is("of an empty WORD", Due.least(x, 1, 1), "");
        DOC.is("again and again", Due.least(x, 2, 1), "ccbaba");
        x.ranks(2, 0);
        DOC.is("by RANKS, not numbers", Due.least(x, 0, 0), "cba");
        DOC.is("by RANKS, not numbers", Due.least(x, 0, 1), "bac");
        LettersThatPass y = Due.with(ALL_PASS, "fedcbafedcbafe");
        DOC.is("14 LETTERS", Due.least(y, 0, 0), "aabbccddeeefff");
        DOC.is("14 LETTERS", Due.least(y, 0, 1), "fffeeeddccbbaa");
    }

    private static void copies() {
        DOC.says("Terms", "COPIES: how many unlike WORDS are ALIKE it (itself, too).");
        LettersThatPass x = Due.with("ab", "", "a", "aab", "cc", "a7b7");
        long[] due = {1, 1, 3, 1, 3432};
        for (int word = 0; word < due.length; word++) {
            DOC.is("WORD " + word, x.copies(word), due[word]);
        }
        LettersThatPass y = Due.with(ALL_PASS, "a9a5", "abcdefabcdefab", "aaabbbccddeeff", "abcdef");
        DOC.is("unlike ones alone", y.copies(0), 1);
        DOC.is("the most that there can be", y.copies(1), 151351200L);
        DOC.is("the most, in another order", y.copies(2), 151351200L);
        DOC.is("six", y.copies(3), 720);
    }

    private static void seen() {
        DOC.says("Terms", "SEEN of two LETTERS (or one, told twice): the WORD without all others.");
        LettersThatPass x = Due.with("ab", "fabcabf", "", "a9f5");
        DOC.is("two", Due.spell(i -> x.seen(0, 0, 5, i)), "faaf");
        DOC.is("two, turned round", Due.spell(i -> x.seen(0, 5, 0, i)), "faaf");
        DOC.is("one", Due.spell(i -> x.seen(0, 5, 5, i)), "ff");
        DOC.is("one that isn't there", Due.spell(i -> x.seen(0, 4, 4, i)), "");
        DOC.is("an empty WORD", Due.spell(i -> x.seen(1, 0, 1, i)), "");
        DOC.is("all 14", Due.spell(i -> x.seen(2, 0, 5, i)), "aaaaaaaaafffff");
    }

    private static void spread() {
        DOC.says("Terms", "SPREAD of a LETTER's n-th time (n from 0) in a WORD: the least, the greatest place at which the LETTER"
            + " stands for the n-th time in any WORD that is ALIKE;");
        LettersThatPass x = Due.with("ab,ac", "abcab", "", "a7b7", "a9a5");
        DOC.is("time 0, least", x.spread(0, 0, 0, 0), 0);
        DOC.is("time 0, greatest", x.spread(0, 0, 0, 1), 3);
        DOC.is("time 1, least", x.spread(0, 0, 1, 0), 1);
        DOC.is("time 1, greatest", x.spread(0, 0, 1, 1), 4);
        DOC.is("time 6 of 7, greatest", x.spread(2, 0, 6, 1), 13);
        DOC.is("time 0 of 7, least", x.spread(2, 1, 0, 0), 0);
        DOC.is("time 13", x.spread(3, 0, 13, 0), 13);
        DOC.says("Terms", "-9: it stands there less often.");
        DOC.is("time 2 of two", x.spread(0, 0, 2, 0), -9);
        DOC.is("time 1 of one", x.spread(0, 2, 1, 1), -9);
        DOC.is("time 0 of none", x.spread(0, 5, 0, 0), -9);
        DOC.is("time 0 of an empty WORD", x.spread(1, 0, 0, 1), -9);
        DOC.is("time 14", x.spread(3, 0, 14, 0), -9);
        DOC.is("time greatest int", x.spread(3, 0, MAX, 0), -9);
    }

    private static void begins() {
        DOC.says("Terms", "BEGINS: a WORD v BEGINS with u, if v is ALIKE some u w (u, then w); REST: the LEAST WORD of that w.");
        LettersThatPass x = Due.with("ac,bc", "", "ab", "cab", "aba", "abcab");
        DOC.is("an empty one, with an empty one", x.begins(0, 0, -1), 1);
        DOC.is("each, with an empty one", x.begins(2, 0, -1), 1);
        DOC.is("REST is all then", Due.spell(i -> x.begins(2, 0, i)), "abc");
        DOC.is("an empty one, with another", x.begins(0, 1, -1), 0);
        DOC.is("each, with itself", x.begins(2, 2, -1), 1);
        DOC.is("REST is empty then", Due.spell(i -> x.begins(2, 2, i)), "");
        DOC.is("with what comes later, but PASSES", x.begins(2, 1, -1), 1);
        DOC.is("REST", Due.spell(i -> x.begins(2, 1, i)), "c");
        DOC.is("with a longer one", x.begins(1, 2, -1), 0);
        DOC.is("with one that goes on otherwise", x.begins(2, 3, -1), 0);
        DOC.is("REST by RANKS", Due.spell(i -> x.begins(4, 1, i)), "abc");
    }

    private static void common() {
        DOC.says("Terms", "COMMON of u and v: the LEAST WORD of the longest with which both BEGIN.");
        LettersThatPass x = Due.with("ac,bc", "", "abc", "cbc", "cab", "(abcdefa)2");
        DOC.is("with an empty one", x.common(1, 0, -1), 0);
        DOC.is("of an empty one", x.common(0, 1, -1), 0);
        DOC.is("of two empty ones", x.common(0, 0, -1), 0);
        DOC.is("one LETTER", Due.spell(i -> x.common(1, 2, i)), "c");
        DOC.is("all of ALIKE ones", Due.spell(i -> x.common(3, 1, i)), "abc");
        DOC.is("all 14", x.common(4, 4, -1), 14);
        DOC.is("the longer one goes on", Due.spell(i -> x.common(4, 3, i)), "abc");
    }

    private static void productAndPower() {
        DOC.says("Terms", "PRODUCT: u, then v. POWER: u, n times.");
        LettersThatPass x = Due.with("ab", "ba", "", "c");
        DOC.is("PRODUCT with an empty one", x.product(0, 1), 3);
        DOC.is("as it is told", Due.told(x, 3), "ba");
        DOC.is("PRODUCT of an empty one", x.product(1, 2), 4);
        DOC.is("as it is told", Due.told(x, 4), "c");
        x.drop();
        x.drop();
        DOC.is("POWER 0", x.power(0, 0), 3);
        DOC.is("is empty", x.at(3, -1), 0);
        DOC.is("POWER 1", x.power(0, 1), 4);
        DOC.is("is the WORD", Due.told(x, 4), "ba");
        x.drop();
        DOC.is("POWER 7", x.power(0, 7), 4);
        DOC.is("14 LETTERS", Due.told(x, 4), "ba".repeat(7));
    }

    private static void changes() {
        DOC.says("Terms", "Whether two WORDS CHANGE: u v is ALIKE v u.");
        LettersThatPass x = Due.with("ac", "", "ab", "(ab)7", "c", "a9a5");
        DOC.is("with an empty one", x.changes(1, 0), 1);
        DOC.is("an empty one with itself", x.changes(0, 0), 1);
        DOC.is("with itself", x.changes(1, 1), 1);
        DOC.is("powers of one", x.changes(2, 1), 1);
        DOC.is("14 and 14", x.changes(2, 2), 1);
        DOC.is("14 and 14, not", x.changes(2, 4), 0);
        DOC.is("some PASS, not all", x.changes(3, 1), 0);
        DOC.is("all PASS", x.changes(3, 4), 1);
        LettersThatPass y = Due.with("ab", "a9a5", "b9b5", "(ac)7", "(ca)7");
        DOC.is("28 LETTERS, all PASS", y.changes(0, 1), 1);
        DOC.is("28 LETTERS, the last ones unlike", y.changes(1, 0), 1);
        DOC.is("28 LETTERS, none PASS", y.changes(2, 3), 0);
    }

    private static void root() {
        DOC.says("Terms", "ROOT of a WORD that isn't empty: the greatest k such that it is ALIKE some r, k times; the LEAST"
            + " WORD of that r.");
        LettersThatPass x = Due.with("ab", "c", "a9a5", "a7b7", "aabbc", "");
        int[] due = {1, 14, 7, 1};
        String[] roots = {"c", "a", "ab", "aabbc"};
        for (int word = 0; word < due.length; word++) {
            int number = word;
            DOC.is("k of WORD " + word, x.root(word, -1), due[word]);
            DOC.is("r of WORD " + word, Due.spell(i -> x.root(number, i)), roots[word]);
        }
        DOC.is("an empty WORD", x.root(4, -1), -3);
        LettersThatPass y = Due.with("ab", "abcbac", "(aab)4", "a8b4");
        DOC.is("abcbac", y.root(0, -1), 2);
        DOC.is("(aab)4", y.root(1, -1), 4);
        DOC.is("a8b4", Due.spell(i -> y.root(2, i)), "aab");
    }

    private static void parts() {
        DOC.says("Terms", "PARTS: LETTERS that stand in a WORD hang together, if they don't PASS, and by way of others that stand"
            + " there: how many PARTS;");
        LettersThatPass x = Due.with("ac,ad,bd", "ac", "abc", "abcd", "", "aa");
        DOC.is("two that PASS", x.parts(0, -1), 2);
        DOC.is("by way of one that stands there", x.parts(1, 0), 7);
        DOC.is("one PART", x.parts(1, -1), 1);
        DOC.is("by way of two", x.parts(2, 0), 15);
        DOC.is("empty", x.parts(3, -1), 0);
        DOC.is("one LETTER", x.parts(4, -1), 1);
        DOC.says("Terms", "the one of a LETTER (bits of LETTERS; 0: it doesn't stand there).");
        DOC.is("doesn't stand there", x.parts(0, 1), 0);
        DOC.is("doesn't stand in an empty one", x.parts(3, 0), 0);
        LettersThatPass y = Due.with(ALL_PASS, "abcdef");
        DOC.is("all PASS", y.parts(0, -1), 6);
        DOC.is("f alone", y.parts(0, 5), 32);
        for (int way = 0; way < 6; way++) {
            partsByWayOf(way);
        }
    }

    /** All PASS but one LETTER, by way of which all others hang together. */
    private static void partsByWayOf(int way) {
        LettersThatPass x = Due.with(ALL_PASS, "fedcba", "abcdef".replace(String.valueOf((char) ('a' + way)), ""));
        for (int a = 0; a < 6; a++) {
            x.passes(way, a);
        }
        DOC.is("one PART by way of " + way, x.parts(0, -1), 1);
        DOC.is("five PARTS without " + way, x.parts(1, -1), 5);
        for (int a = 0; a < 6; a++) {
            DOC.is("all by way of " + way + ", " + a, x.parts(0, a), 63);
            DOC.is("alone without " + way + ", " + a, x.parts(1, a), a == way ? 0 : 1 << a);
        }
    }

    private static void moves() {
        DOC.says("Terms", "TURNED: a MOVE of a WORD takes the LETTER of a READY place to its end, then the LEAST WORD of that is"
            + " taken.");
        LettersThatPass x = Due.with("ab", "bac", "bca", "acb", "cba");
        int[][] due = {{0, 1, 1, 2}, {2, 0, 3, 1}, {2, 3, 0, 1}, {1, 2, 2, 0}};
        for (int u = 0; u < due.length; u++) {
            for (int v = 0; v < due.length; v++) {
                DOC.is("c of abc isn't READY, b is: from " + u + " to " + v, x.apart(u, v), due[u][v]);
            }
        }
        String[] byNumbers = {"abc", "acb", "bca", "cab"};
        String[] byRanks = {"acb", "bac", "bca", "cba"};
        for (int k = 0; k < byNumbers.length; k++) {
            int number = k;
            DOC.is("LEAST WORDS", Due.spell(i -> x.turn(0, number, i)), byNumbers[k]);
        }
        x.ranks(0, 1);
        for (int k = 0; k < byRanks.length; k++) {
            int number = k;
            DOC.is("LEAST WORDS by other RANKS", Due.spell(i -> x.turn(0, number, i)), byRanks[k]);
        }
    }

    private static void turned() {
        DOC.says("Terms", "Of a WORD of 7 LETTERS at most: all WORDS to which MOVES lead (from its LEAST WORD on, that too): how"
            + " many;");
        LettersThatPass x = Due.with("ab", "", "f", "ba", "abcdefa", "abcdefaf");
        DOC.is("empty: itself", x.turned(0), 1);
        DOC.is("one LETTER: itself", x.turned(1), 1);
        DOC.is("its LEAST WORD alone", Due.spell(i -> x.turn(2, 0, i)), "ab");
        DOC.is("that alone", x.turned(2), 1);
        DOC.is("7 LETTERS: a, a and b apart from one another between f and c, and three more", x.turned(3), 3 * 2 + 3);
        DOC.is("8 LETTERS", x.turned(4), -6);
        DOC.says("Terms", "the i-th of them, by LETTERS as numbers, place by place, the least first;");
        LettersThatPass y = Due.with("<ac", "cab", "a6f");
        String[] due = {"abc", "bca", "cab"};
        for (int k = 0; k < due.length; k++) {
            int number = k;
            DOC.is("by numbers, not RANKS, " + k, Due.spell(i -> y.turn(0, number, i)), due[k]);
        }
        DOC.is("first of seven", Due.spell(i -> y.turn(1, 0, i)), "aaaaaaf");
        DOC.is("last of seven", Due.spell(i -> y.turn(1, 6, i)), "faaaaaa");
        DOC.is("no eighth", Due.spell(i -> y.turn(1, 7, i)), "");
    }

    private static void apart() {
        DOC.says("Terms", "APART of two (7 LETTERS at most each): the fewest MOVES that lead from the LEAST WORD of the one to"
            + " that of the other; -9.");
        LettersThatPass x = Due.with("ab", "", "abcdefa", "bcdefaa", "bacdefa", "f8");
        DOC.is("empty ones", x.apart(0, 0), 0);
        DOC.is("empty, another", x.apart(0, 1), -9);
        DOC.is("another, empty", x.apart(1, 0), -9);
        DOC.is("ALIKE ones", x.apart(1, 3), 0);
        DOC.is("one MOVE", x.apart(1, 2), 1);
        DOC.is("8 LETTERS", x.apart(1, 4), -6);
        DOC.is("8 LETTERS", x.apart(4, 1), -6);
        DOC.is("8 LETTERS, both", x.apart(4, 4), -6);
        LettersThatPass y = Due.with("", "abcdeff", "fabcdef", "ffabcde", "fabcdfe", "abcdef");
        DOC.is("six MOVES", y.apart(0, 1), 6);
        DOC.is("five MOVES", y.apart(0, 2), 5);
        DOC.is("back: one MOVE", y.apart(1, 0), 1);
        DOC.is("none leads there", y.apart(0, 3), -9);
        DOC.is("another length", y.apart(0, 4), -9);
        LettersThatPass z = Due.with("", "abcd", "bcda", "cdab", "dabc");
        for (int u = 0; u < 4; u++) {
            for (int v = 0; v < 4; v++) {
                DOC.is("from " + u + " to " + v, z.apart(u, v), (v - u + 4) % 4);
            }
        }
    }

    private static void unlike() {
        DOC.says("Terms", "UNLIKE of n: how many WORDS of n LETTERS (0 .. 12), each one of the LETTERS 0 .. m less 1 (m 1 .. 6),"
            + " there are, ALIKE ones counted once.");
        LettersThatPass x = new LettersThatPass();
        long power = 1;
        for (int n = 0; n <= 12; n++) {
            DOC.is("none PASS, six, " + n, x.unlike(n, 6), power);
            DOC.is("none PASS, one, " + n, x.unlike(n, 1), 1);
            power *= 6;
        }
        Due.rules(x, ALL_PASS);
        long[] due = {1, 13, 91, 455, 1820, 6188};
        for (int m = 1; m <= 6; m++) {
            DOC.is("all PASS, 0, " + m, x.unlike(0, m), 1);
            DOC.is("all PASS, 12, " + m, x.unlike(12, m), due[m - 1]);
        }
        DOC.is("n -1", x.unlike(-1, 1), Due.FAR + 4);
        DOC.is("n 13", x.unlike(13, 1), Due.FAR + 6);
        DOC.is("m 0", x.unlike(0, 0), Due.FAR + 4);
        DOC.is("m 7", x.unlike(0, 7), Due.FAR + 6);
    }

    private static void free() {
        DOC.says("Terms", "FREE: sets (bits) of LETTERS that all PASS one another: how many there are (the empty one, too).");
        LettersThatPass x = new LettersThatPass();
        DOC.is("the empty one, and each alone", x.free(), 7);
        x.passes(4, 5);
        DOC.is("one pair more", x.free(), 8);
        x.passes(4, 5);
        Due.rules(x, ALL_PASS);
        DOC.is("all", x.free(), 64);
        x.passes(0, 5);
        DOC.is("all without both a and f", x.free(), 48);
    }

    private static void wordTexts() {
        DOC.says("Terms", "A WORD is told in letters (72 at most), without blanks:");
        LettersThatPass x = new LettersThatPass();
        DOC.is("a blank alone", Due.word(x, " "), -1000);
        DOC.is("a blank ahead", Due.word(x, " a"), -1000);
        DOC.is("a blank between", Due.word(x, "a b"), -1001);
        DOC.is("a blank in brackets", Due.word(x, "(a )"), -1002);
        DOC.is("a blank behind", Due.word(x, "a "), -1001);
        Due.type(x, "b0".repeat(35) + "cd");
        DOC.is("72", x.count(1), 72);
        DOC.is("a 73rd doesn't come", x.letter('e'), -6);
        DOC.is("72 of them make a WORD", x.word(), 0);
        DOC.is("as told", Due.told(x, 0), "cd");
        DOC.is("then there are none", x.count(1), 0);
        DOC.is("and one comes", x.letter('e'), 1);
    }

    private static void wordItems() {
        DOC.says("Terms", "ITEMS, none too; ITEM: a .. f, or (, ITEMS, );");
        String[][] pairs = {{"", ""}, {"()", ""}, {"()()", ""}, {"(())", ""}, {"a()b", "ab"}, {"(a)", "a"},
            {"(ab)(c)", "abc"}, {"(a(b)c)", "abc"}, {"a", "a"}, {"f", "f"}};
        LettersThatPass x = new LettersThatPass();
        for (String[] pair : pairs) {
            DOC.is("'" + pair[0] + "'", Due.word(x, pair[0]), 0);
            DOC.is("'" + pair[0] + "' as told", Due.told(x, 0), pair[1]);
            x.drop();
        }
    }

    /** Nothing of a text is left for the next: neither an ITEM that a digit could follow, nor what is open. */
    private static void wordsOneByOne() {
        DOC.says("Terms", "behind either perhaps a digit 0 .. 9");
        String[] ends = {"a", "(a)", "()", "a2", "a?", "(((((", "(((((a", "a9b9"};
        for (String end : ends) {
            LettersThatPass x = new LettersThatPass();
            Due.word(x, end);
            DOC.is("a digit alone, behind the text " + end, Due.word(x, "2"), -1000);
            DOC.is("a ) alone, behind the text " + end, Due.word(x, ")"), -1000);
            DOC.is("five (, behind the text " + end, Due.word(x, "(((((a)))))2"), x.count(0) - 1);
            DOC.is("told, behind the text " + end, Due.told(x, x.count(0) - 1), "aa");
        }
    }

    private static void wordDigits() {
        DOC.says("Terms", "behind either perhaps a digit 0 .. 9: so many times (0: not at all).");
        for (int times = 0; times <= 9; times++) {
            LettersThatPass x = Due.with("", "d" + times, "c(b)" + times + "c", "()" + times, "(((((e)))))" + times);
            DOC.is("a LETTER times " + times, Due.told(x, 0), "d".repeat(times));
            DOC.is("brackets times " + times, Due.told(x, 1), "c" + "b".repeat(times) + "c");
            DOC.is("nothing times " + times, Due.told(x, 2), "");
            DOC.is("five brackets times " + times, Due.told(x, 3), "e".repeat(times));
        }
        String[] wrong = {"a/", "a:", "7", "(7", "a77", "(a)77", "()00", "a00", "a(7)", "()(7)", "a2(7", "(a)(b(7))"};
        int[] places = {1, 1, 0, 1, 2, 4, 3, 2, 2, 3, 3, 6};
        for (int k = 0; k < wrong.length; k++) {
            DOC.is(wrong[k], Due.word(new LettersThatPass(), wrong[k]), -1000 - places[k]);
        }
    }

    private static void wordBrackets() {
        DOC.says("Terms", "At most 5 ( are open at once.");
        LettersThatPass x = new LettersThatPass();
        DOC.is("five", Due.word(x, "(((((f)))))"), 0);
        DOC.is("five, told", Due.told(x, 0), "f");
        DOC.is("five, empty", Due.word(x, "((((()))))"), 1);
        DOC.is("a sixth behind a closed one", Due.word(x, "(((((f)(e)))))"), 2);
        DOC.is("told", Due.told(x, 2), "fe");
        DOC.is("five, and five more", Due.word(x, "(((((a)))))(((((b)))))"), 3);
        DOC.is("a sixth", Due.word(x, "((((((f))))))"), -1005);
        DOC.is("a sixth behind a LETTER", Due.word(x, "(((((f(e))))))"), -1006);
        DOC.is("a sixth, later", Due.word(x, "(((((a)))))((((((b"), -1016);
        DOC.is("many that are closed", Due.word(x, "()".repeat(36)), 4);
    }

    private static void wordFaults() {
        DOC.says("Terms", "FAULT: kind 1 the place (from 0) of the first letter with which no such text goes on (the number of"
            + " letters, if something lacks): -1000 less it;");
        LettersThatPass x = new LettersThatPass();
        String filler = "a0".repeat(35);
        DOC.is("place 0", Due.word(x, ")a"), -1000);
        DOC.is("place 71, the last", Due.word(x, filler + "b?"), -1071);
        DOC.is("place 71, one ) too many", Due.word(x, filler + "b)"), -1071);
        DOC.is("the first of two", Due.word(x, "a?b?"), -1001);
        DOC.is("the first, though a ( lacks its )", Due.word(x, "(a?"), -1002);
        DOC.is("lacks: 1 letter", Due.word(x, "("), -1001);
        DOC.is("lacks: 5 letters", Due.word(x, "((a)2"), -1005);
        DOC.is("lacks: 71 letters", Due.word(x, filler + "("), -1071);
        DOC.is("lacks: 72 letters", Due.word(x, filler + "(a"), -1072);
        for (int c = 0; c <= 255; c++) {
            LettersThatPass y = new LettersThatPass();
            y.letter('a');
            y.letter(c);
            boolean goesOn = c >= 'a' && c <= 'f' || c >= '0' && c <= '9';
            DOC.is("a, then " + c, y.word(), goesOn ? 0 : c == '(' ? -1002 : -1001);
        }
    }

    private static void wordRoom() {
        DOC.says("Terms", "else, if it has more than 14 LETTERS in all, or if there are five WORDS: -2000.");
        LettersThatPass x = new LettersThatPass();
        DOC.is("14", Due.word(x, "a9b5"), 0);
        DOC.is("15", Due.word(x, "a9b6"), -2000);
        DOC.is("15 in brackets", Due.word(x, "(abc)5"), -2000);
        DOC.is("14 in brackets", Due.word(x, "(ab)7"), 1);
        DOC.is("72", Due.word(x, "f".repeat(72)), -2000);
        DOC.is("more than a short", Due.word(x, "(((((a9)9)9)9)9)9"), -2000);
        DOC.is("many, then none of them", Due.word(x, "((((a9)9)9)9)0b"), 2);
        DOC.is("none of them, then many", Due.word(x, "(a9b9)0(ab)7c"), -2000);
        DOC.is("a FAULT goes ahead of 15", Due.word(x, "a9b6?"), -1004);
        DOC.is("what lacks goes ahead of 15", Due.word(x, "(a9b6"), -1005);
        x.word();
        x.word();
        DOC.is("five, and an empty one", x.word(), -2000);
        DOC.is("five, and 15", Due.word(x, "a9b6"), -2000);
        DOC.is("a FAULT goes ahead of five", Due.word(x, "?"), -1000);
        DOC.is("what lacks goes ahead of five", Due.word(x, "("), -1001);
        DOC.is("still five", x.count(0), 5);
        DOC.is("none is counted", x.count(16), 0);
    }

    private static void ruleTexts() {
        DOC.says("Terms", "RULES are told in letters likewise: RULE, then any number of , and RULE:");
        LettersThatPass x = new LettersThatPass();
        DOC.is("one", Due.rules(x, "ab"), 1);
        DOC.is("two", Due.rules(x, "cd,ef"), 2);
        DOC.is("24, 71 letters", Due.rules(x, "ab,".repeat(23) + "<ab"), 24);
        DOC.is("23 times ab", x.of(0, 1), 0);
        DOC.is("once <ab", x.of(0, 0), 1);
        DOC.is("18 of RANKS, 71 letters", Due.rules(x, "<ab,".repeat(17) + "<ef"), 18);
        DOC.is("17 times <ab", x.of(0, 0), 0);
        DOC.is("a text counts once", x.count(4), 4);
        DOC.says("Terms", "two unlike a .. f: they PASS, or, if they do, don't any more;");
        LettersThatPass y = new LettersThatPass();
        Due.rules(y, "fa");
        DOC.is("a PASSES f", y.of(0, 1), 32);
        DOC.is("f PASSES a", y.of(5, 1), 1);
        Due.rules(y, "af");
        DOC.is("no more", y.of(0, 1) + y.of(5, 1), 0);
        DOC.says("Terms", "or < and two unlike a .. f: they change RANKS.");
        Due.rules(y, "<fa");
        DOC.is("RANK of a", y.of(0, 0), 5);
        DOC.is("RANK of f", y.of(5, 0), 0);
        DOC.is("they don't PASS by it", y.count(3), 0);
    }

    private static void ruleFaults() {
        DOC.says("Terms", "FAULT likewise, kind 1 alone; all are done, one behind the other.");
        String[] texts = {"", "a", "aa", "abc", "ab,", ",ab", "<", "<a", "<aa", "<<ab", "ab,cd,<ee", "ab, cd", "ab;cd", "ab?",
            "ab,,cd", "ab,".repeat(23) + "abc", "ab,".repeat(23) + "ab,", "<ab,".repeat(18)};
        int[] places = {0, 1, 1, 2, 3, 0, 1, 2, 2, 1, 8, 3, 2, 2, 3, 71, 72, 72};
        for (int k = 0; k < texts.length; k++) {
            LettersThatPass x = new LettersThatPass();
            DOC.is("'" + texts[k] + "'", Due.rules(x, texts[k]), -1000 - places[k]);
            DOC.is("none of it is done, '" + texts[k] + "'", x.count(3) + x.count(4), 0);
            DOC.is("nor RANKS, '" + texts[k] + "'", x.of(0, 0), 0);
        }
        rulesBehindAFault();
        LettersThatPass x = Due.with("", "", "", "", "", "a9b5");
        DOC.is("five WORDS are no FAULT of RULES", Due.rules(x, "ab,<bc,<ab,ab,bc"), 5);
        DOC.is("ab twice", x.of(0, 1), 0);
        DOC.is("bc", x.of(1, 1), 4);
        DOC.is("RANK of a", x.of(0, 0), 2);
        DOC.is("RANK of b", x.of(1, 0), 0);
        DOC.is("RANK of c", x.of(2, 0), 1);
    }

    private static void rulesBehindAFault() {
        LettersThatPass x = new LettersThatPass();
        x.passes(0, 1);
        x.ranks(0, 1);
        DOC.is("a FAULT behind three RULES", Due.rules(x, "ab,cd,<ef,?"), -1010);
        DOC.is("then one RULE", Due.rules(x, "bc"), 1);
        int[] passed = {2, 5, 2, 0, 0, 0};
        int[] ranks = {1, 0, 2, 3, 4, 5};
        for (int a = 0; a < 6; a++) {
            DOC.is("that alone is done, PASSES " + a, x.of(a, 1), passed[a]);
            DOC.is("that alone is done, RANK of " + a, x.of(a, 0), ranks[a]);
        }
        x.image();
        Due.rules(x, "de,<de");
        x.undo();
        Due.rules(x, "df");
        DOC.is("RULES behind what was UNDONE", x.of(3, 1), 32);
        DOC.is("RULES behind what was UNDONE", x.of(3, 0), 3);
        x.on();
        Due.rules(x, "<cf");
        DOC.is("RULES behind ON", x.of(3, 1), 0);
        DOC.is("RULES behind ON", x.of(2, 0), 5);
    }

    private static void lists() {
        DOC.says("Terms", "LISTS 0 .. 2 are rows of ints (40 at most), missing at first.");
        LettersThatPass x = new LettersThatPass();
        for (int list = 0; list <= 2; list++) {
            DOC.is("missing at first", x.put(list, 0, 1), -11);
            DOC.is("40", x.list(list, 40), 1);
            DOC.is("the least int", x.put(list, 0, MIN), 1);
            DOC.is("the greatest int", x.put(list, 39, MAX), 1);
            DOC.is("kept", x.look(list, 0), MIN);
            DOC.is("kept", x.look(list, 39), MAX);
            DOC.is("no place 40", x.look(list, 40), Due.FAR + 13);
            DOC.is("41", x.list(list, 41), -6);
            DOC.is("0", x.list(list, 0), 1);
            DOC.is("no place 0", x.look(list, 0), Due.FAR + 13);
        }
        DOC.is("LIST -1", x.list(-1, 1), -1);
        DOC.is("LIST 3", x.list(3, 1), -1);
    }

    private static void judged() {
        DOC.says("Terms", "JUDGED: a LIST tells LETTERS of a WORD from place 0 on: the first place that is otherwise (that isn't"
            + " there, too); -9 (also if it tells fewer).");
        LettersThatPass x = Due.with("ab", "ba", "", "(ba)7");
        x.list(0, 2);
        x.put(0, 0, 1);
        DOC.is("as the WORD, not its LEAST WORD", x.judge(0, 0), -9);
        DOC.is("it tells fewer", x.judge(0, 2), -9);
        DOC.is("place 0 isn't there", x.judge(0, 1), 0);
        x.put(0, 1, MIN);
        DOC.is("place 1 is otherwise", x.judge(0, 0), 1);
        x.put(0, 0, -9);
        DOC.is("the first of two", x.judge(0, 0), 0);
        DOC.is("-9 isn't a LETTER that isn't there", x.judge(0, 1), 0);
        x.list(1, 0);
        DOC.is("it tells none", x.judge(1, 0), -9);
        DOC.is("it tells none of an empty one", x.judge(1, 1), -9);
        x.list(2, 40);
        for (int i = 0; i < 40; i++) {
            x.put(2, i, (i + 1) % 2);
        }
        DOC.is("place 14 isn't there", x.judge(2, 2), 14);
    }

    private static void fromAList() {
        DOC.says("Terms", "FROM A LIST: its numbers from a place on, as many as are told, are a WORD more; they must be LETTERS.");
        LettersThatPass x = new LettersThatPass();
        x.list(0, 40);
        for (int i = 0; i < 40; i++) {
            x.put(0, i, i % 6);
        }
        DOC.is("14 from place 0", x.from(0, 0, 14), 0);
        DOC.is("told", Due.told(x, 0), "abcdefabcdefab");
        DOC.is("14 up to the last place", x.from(0, 26, 14), 1);
        DOC.is("told", Due.told(x, 1), "cdefabcdefabcd");
        DOC.is("none", x.from(0, 0, 0), 2);
        DOC.is("told", Due.told(x, 2), "");
        int[] wrong = {-1, 6, -9, 97, MIN, MAX};
        for (int number : wrong) {
            x.put(0, 3, number);
            DOC.is("the first is " + number, x.from(0, 3, 2), -3);
            DOC.is("the last is " + number, x.from(0, 2, 2), -3);
            DOC.is("the last of three is " + number, x.from(0, 1, 3), -3);
            DOC.is("the one behind is " + number, x.from(0, 1, 2), 3);
            x.drop();
            DOC.is("the one ahead is " + number, x.from(0, 4, 2), 3);
            x.drop();
        }
    }

    private static void lots() {
        DOC.says("Terms", "LOTS with a seed z, in thought: n times (1 .. 60) two neighbours of a WORD");
        LettersThatPass x = Due.with("ab", "ab", "ba7", "cc");
        for (int n = 1; n <= 60; n++) {
            DOC.is("how often, " + n, x.lots(0, n, MIN, 0), n);
            DOC.is("places, " + n, x.lots(0, n, MAX, 1), n % 2 * 2);
        }
        DOC.is("0 times", x.lots(0, 0, 1, 0), -4);
        DOC.is("61 times", x.lots(0, 61, 1, 0), -6);
        DOC.is("none PASS", x.lots(2, 60, 1, 0), 0);
        DOC.is("none PASS: places", x.lots(2, 60, 1, 1), 0);
        DOC.is("in thought", Due.told(x, 0), "ab");
        DOC.is("the same once more", x.lots(1, 60, 9, 1) - x.lots(1, 60, 9, 1), 0);
    }

    /** A pair that PASSES at one place alone tells whether the DRAW was that place. */
    private static void draws() {
        DOC.says("Terms", "(the first one's place a DRAW below its length less 1)");
        int[] seeds = {MIN, MIN + 1, -2147480000, -1000000007, -256, -1, 0, 1, 255, 256, 77777, 1000000007, MAX - 1, MAX};
        for (int length = 2; length <= 14; length++) {
            for (int place = 0; place < length - 1; place++) {
                LettersThatPass x = Due.with("ab", "c".repeat(place) + "ab" + "c".repeat(length - place - 2));
                for (int z : seeds) {
                    int due = draw(z, length - 1);
                    DOC.is("seed " + z + ", length " + length, x.lots(0, 1, z, 0), due == place ? 1 : 0);
                }
            }
        }
        DOC.says("Terms", "A DRAW below m: z becomes z times 1664525, plus 1013904223 (an int); (z without its sign's bit divided by"
            + " 256, cut) modulo m.");
        LettersThatPass x = Due.with(ALL_PASS, "abcdefabcdefab");
        for (int z : seeds) {
            for (int n = 1; n <= 6; n++) {
                StringBuilder row = new StringBuilder("abcdefabcdefab");
                int times = walk(row, n, z);
                DOC.is("times " + n + ", seed " + z, x.lots(0, n, z, 0), times);
                DOC.is("places " + n + ", seed " + z, x.lots(0, n, z, 1), otherwise(row, "abcdefabcdefab"));
            }
        }
    }

    /** Of acb and bca no neighbours PASS; of abc and bac those at place 0 do. */
    private static void lotsThatPass() {
        DOC.says("Terms", "change, if they PASS: how often they did; how many places are otherwise then than they were.");
        LettersThatPass x = Due.with("ab", "abc", "bac", "acb");
        for (int seed = -20; seed <= 20; seed++) {
            int n = 21 + seed;
            int times = 0;
            BigInteger z = BigInteger.valueOf(seed);
            for (int k = 0; k < n; k++) {
                z = next(z);
                times += cut(z, 2) == 0 ? 1 : 0;
            }
            DOC.is("how often, " + n, x.lots(0, n, seed, 0), times);
            DOC.is("places, " + n, x.lots(1, n, seed, 1), times % 2 * 2);
            DOC.is("none PASS, " + n, x.lots(2, n, seed, 0) + x.lots(2, n, seed, 1), 0);
        }
    }

    private static final BigInteger INTS = BigInteger.ONE.shiftLeft(32);

    private static BigInteger next(BigInteger z) {
        return z.multiply(BigInteger.valueOf(1664525)).add(BigInteger.valueOf(1013904223)).mod(INTS);
    }

    private static int cut(BigInteger z, int m) {
        return z.mod(INTS.shiftRight(1)).divide(BigInteger.valueOf(256)).mod(BigInteger.valueOf(m)).intValue();
    }

    private static int draw(int seed, int m) {
        return cut(next(BigInteger.valueOf(seed)), m);
    }

    /** All PASS but a LETTER itself. */
    private static int walk(StringBuilder row, int n, int seed) {
        BigInteger z = BigInteger.valueOf(seed);
        int times = 0;
        for (int k = 0; k < n; k++) {
            z = next(z);
            int place = cut(z, row.length() - 1);
            char first = row.charAt(place);
            if (first != row.charAt(place + 1)) {
                row.setCharAt(place, row.charAt(place + 1));
                row.setCharAt(place + 1, first);
                times++;
            }
        }
        return times;
    }

    private static int otherwise(CharSequence one, CharSequence other) {
        int places = 0;
        for (int k = 0; k < one.length(); k++) {
            places += one.charAt(k) == other.charAt(k) ? 0 : 1;
        }
        return places;
    }

    private static void odds() {
        DOC.says("Terms", "ODDS: how likely the LETTER at a READY place, any of these alike, has RANK 0, 1 or 2: a fraction (0 by 1"
            + " of an empty WORD).");
        LettersThatPass x = Due.with(ALL_PASS, "", "a", "c", "d", "abcdef");
        long[][] due = {{0, 1}, {1, 1}, {1, 1}, {0, 1}, {1, 2}};
        for (int word = 0; word < due.length; word++) {
            DOC.is("above, WORD " + word, x.odds(word, 0), due[word][0]);
            DOC.is("below, WORD " + word, x.odds(word, 1), due[word][1]);
        }
        x.ranks(2, 3);
        DOC.is("c has RANK 3", x.odds(2, 0), 0);
        DOC.is("d has RANK 2", x.odds(3, 0), 1);
        LettersThatPass y = Due.with("ad", "adb", "aad", "dba");
        DOC.is("READY ones alone", y.odds(0, 1), 2);
        DOC.is("a LETTER is READY once", y.odds(1, 1), 2);
        DOC.is("b stands behind d", y.odds(2, 0), 0);
        for (int a = 0; a < 6; a++) {
            for (int b = 0; b < 6; b++) {
                LettersThatPass z = Due.with("", String.valueOf((char) ('a' + a)));
                z.ranks(a, b);
                DOC.is("LETTER " + a + " has RANK " + b, z.odds(0, 0), b <= 2 ? 1 : 0);
                DOC.is("LETTER " + a + " has RANK " + b, z.odds(0, 1), 1);
            }
        }
    }

    private static void undone() {
        DOC.says("Terms", "What passes(), ranks(), RULES made can be UNDONE (each call, or text without FAULT, at once, the"
            + " latest first, 8 at most, older ones no more):");
        LettersThatPass x = Due.with("ab,<ab,ac");
        DOC.is("a text at once", x.count(4), 1);
        Due.rules(x, "ab,<ab,");
        Due.rules(x, "");
        x.passes(1, 1);
        x.ranks(0, 6);
        DOC.is("not what a FAULT or a refusal left", x.count(4), 1);
        Due.rules(x, "ef,ef");
        DOC.is("also one that leaves all as it was", x.count(4), 2);
        x.passes(4, 5);
        x.ranks(4, 5);
        Due.word(x, "ab");
        x.product(0, 0);
        x.drop();
        x.list(0, 3);
        x.image();
        DOC.is("nothing else", x.count(4), 4);
        DOC.is("the latest first", x.undo(), 3);
        DOC.is("RANK of e", x.of(4, 0), 4);
        DOC.is("e PASSES f", x.of(4, 1), 32);
        DOC.is("the next", x.undo(), 2);
        DOC.is("no more", x.of(4, 1), 0);
        DOC.is("the text", x.undo(), 1);
        DOC.is("the first text", x.undo(), 0);
        DOC.is("nothing PASSES", x.count(3), 0);
        DOC.is("RANK of a", x.of(0, 0), 0);
        DOC.is("none", x.undo(), -3);
        DOC.is("WORDS stay", x.count(0), 1);
    }

    private static void undoneEight() {
        for (int made = 0; made <= 20; made++) {
            LettersThatPass x = new LettersThatPass();
            for (int k = 0; k < made; k++) {
                x.passes(k % 5, 5);
            }
            int can = Math.min(made, 8);
            DOC.is("of " + made, x.count(4), can);
            for (int k = made - 1; k >= made - can; k--) {
                DOC.is("UNDONE, of " + made, x.undo(), k - (made - can));
                DOC.is("as ahead of it, of " + made, x.of(5, 1), passedByLast(k));
            }
            DOC.is("older ones no more, of " + made, x.undo(), -3);
            DOC.is("they stay, of " + made, x.of(5, 1), passedByLast(made - can));
            x.ranks(0, 1);
            DOC.is("one more, of " + made, x.count(4), 1);
        }
        DOC.says("Terms", "PASS and RANKS are as ahead of it; ON leaves none.");
        LettersThatPass x = Due.with("ab,<ef");
        x.image();
        x.passes(2, 3);
        x.on();
        DOC.is("none", x.count(4), 0);
        DOC.is("none", x.undo(), -3);
        DOC.is("a PASSES b still", x.of(0, 1), 2);
        x.passes(0, 1);
        DOC.is("one behind ON", x.undo(), 0);
        DOC.is("as ON left it", x.of(0, 1), 2);
        DOC.is("RANK of e as ON left it", x.of(4, 0), 5);
    }

    /** What f PASSES when each of a .. e in turn was asked to, n times in all. */
    private static int passedByLast(int n) {
        int bits = 0;
        for (int k = 0; k < n; k++) {
            bits ^= 1 << k % 5;
        }
        return bits;
    }

    private static void theImage() {
        DOC.says("Terms", "THE IMAGE: PASS, RANKS, WORDS; ON from it these are as then (letters, LISTS stay).");
        LettersThatPass x = new LettersThatPass();
        DOC.is("of nothing", x.image(), 0);
        Due.rules(x, "ab,<ef");
        for (int k = 0; k < 5; k++) {
            Due.word(x, "(abcdefa)2");
        }
        x.list(0, 1);
        x.put(0, 0, 7);
        Due.type(x, "abc");
        DOC.is("ON", x.on(), 0);
        DOC.is("no WORDS", x.at(0, -1), -1);
        DOC.is("nothing PASSES", x.count(3), 0);
        DOC.is("RANK of e", x.of(4, 0), 4);
        DOC.is("letters stay", x.count(1), 3);
        DOC.is("LISTS stay", x.look(0, 0), 7);
        DOC.is("LETTERS of no WORDS", x.count(2), 0);
        DOC.is("the letters make WORD 0", x.word(), 0);
        DOC.is("as typed", Due.told(x, 0), "abc");
        for (int k = 1; k < 5; k++) {
            x.power(0, 4);
        }
        DOC.is("five full ones", x.image(), 5);
        while (x.count(0) > 0) {
            x.drop();
        }
        x.list(0, 2);
        DOC.is("ON", x.on(), 5);
        DOC.is("all their LETTERS", x.count(2), 3 + 4 * 12);
        DOC.is("the LIST is as it was made since", x.look(0, 0), 0);
        DOC.is("REFUSALS stay", x.count(11), 1);
        DOC.is("ON once more", x.on(), 5);
    }

    private static void fractions() {
        DOC.says("Terms", "Fractions are told in least terms; 0 as 0 by 1.");
        String[] texts = {"abde", "abcdef", "adef", "abcde", "abcd", "ad", "abc", "def", "ade", "abd", "abcef"};
        long[][] due = {{1, 2}, {1, 2}, {1, 4}, {3, 5}, {3, 4}, {1, 2}, {1, 1}, {0, 1}, {1, 3}, {2, 3}, {3, 5}};
        for (int k = 0; k < texts.length; k++) {
            LettersThatPass x = Due.with(ALL_PASS, texts[k]);
            DOC.is("above, " + texts[k], x.odds(0, 0), due[k][0]);
            DOC.is("below, " + texts[k], x.odds(0, 1), due[k][1]);
        }
    }

    private static void refusals() {
        DOC.says("Terms", "REFUSALS (the call answers the number, the first that fits in the order in which it tells them; nothing"
            + " changes but how many there were):");
        LettersThatPass x = Due.with("", "a8");
        DOC.is("-1 ahead of -4, -2", x.least(1, -1, 2), -1);
        DOC.is("-4 ahead of -2", x.least(0, -1, 2), -4);
        DOC.is("-2", x.least(0, 0, 2), -2);
        DOC.is("-4 ahead of -6", x.turn(0, -1, 0), -4);
        DOC.is("-6 ahead of -2, -3", x.lots(0, 61, 0, 2), -6);
        DOC.is("-6 ahead of -11", x.from(0, 0, 15), -6);
        DOC.is("-3", x.on(), -3);
        int[] due = {1, 1, 1, 2, 0, 2};
        for (int k = 0; k < due.length; k++) {
            DOC.is("how many, " + (-1 - k), x.count(11 + k), due[k]);
        }
        for (int k = 0; k < 300; k++) {
            x.drop();
        }
        DOC.is("they are counted on and on", x.count(13), 300);
    }

    private static void nobodyAndOther() {
        DOC.says("Terms", "-1 NOBODY: no such LETTER, WORD, LIST, two LETTERS that are one.");
        LettersThatPass x = Due.with("", "a");
        int[] nobody = {x.of(6, 0), x.seen(0, 0, -1, 0), x.spread(0, 6, 0, 0), x.parts(0, 6), x.at(1, 0), x.alike(0, -1),
            x.turned(5), x.list(3, 1), x.judge(-1, 0), x.passes(2, 2), x.ranks(0, 0)};
        for (int answer : nobody) {
            DOC.is("NOBODY", answer, -1);
        }
        DOC.is("how many", x.count(11), nobody.length);
        DOC.says("Terms", "-2 OTHER: what, part.");
        int[] other = {x.of(0, 2), x.least(0, 0, -1), x.spread(0, 0, 0, 2), x.lots(0, 1, 0, 2)};
        for (int answer : other) {
            DOC.is("OTHER", answer, -2);
        }
        DOC.is("of longs", x.odds(0, -1), Due.FAR + 2);
        DOC.is("how many", x.count(12), other.length + 1);
    }

    private static void stateBelowAndRoom() {
        DOC.says("Terms", "-3 STATE: it is not as it must be.");
        LettersThatPass x = new LettersThatPass();
        int none = x.drop();
        x.word();
        x.list(0, 1);
        x.put(0, 0, 6);
        int[] state = {none, x.root(0, -1), x.lots(0, 1, 0, 0), x.from(0, 0, 1), x.undo(), x.on()};
        for (int answer : state) {
            DOC.is("STATE", answer, -3);
        }
        DOC.is("how many", x.count(13), state.length);
        DOC.says("Terms", "-4 BELOW: a number below the least.");
        int[] below = {x.letter(-1), x.at(0, -2), x.blocks(0, -2), x.least(0, -1, 0), x.seen(0, 0, 0, -1),
            x.spread(0, 0, -1, 0), x.begins(0, 0, -2), x.common(0, 0, -2), x.power(0, -1), x.root(0, -2), x.turn(0, -1, 0),
            x.turn(0, 0, -1), x.lots(0, 0, 0, 0), x.from(0, 0, -1)};
        for (int answer : below) {
            DOC.is("BELOW", answer, -4);
        }
        DOC.is("of longs", x.unlike(-1, 1), Due.FAR + 4);
        DOC.is("how many", x.count(14), below.length + 1);
        DOC.says("Terms", "-6 ROOM: a number above the greatest, no room.");
        Due.word(x, "a8");
        int[] room = {x.letter(256), x.product(1, 1), x.power(1, 2), x.turned(1), x.turn(1, 0, 0), x.apart(0, 1),
            x.lots(1, 61, 0, 0), x.list(0, 41), x.from(0, 0, 15)};
        for (int answer : room) {
            DOC.is("ROOM", answer, -6);
        }
        DOC.is("of longs", x.unlike(13, 1), Due.FAR + 6);
        DOC.is("how many", x.count(16), room.length + 1);
        DOC.is("no REFUSAL -5", x.count(15), 0);
    }

    private static void longRefusals() {
        DOC.says("Terms", "Of longs 4000000000000000000 less them (-1 as 4000000000000000001; -11, -13 likewise).");
        LettersThatPass x = Due.with("", "a");
        DOC.is("copies", x.copies(1), 4000000000000000001L);
        DOC.is("odds", x.odds(-1, 0), 4000000000000000001L);
        DOC.is("odds", x.odds(0, 2), 4000000000000000002L);
        DOC.is("unlike", x.unlike(-1, 1), 4000000000000000004L);
        DOC.is("unlike", x.unlike(13, 1), 4000000000000000006L);
        DOC.is("look", x.look(3, 0), 4000000000000000001L);
        DOC.is("look", x.look(0, 0), 4000000000000000011L);
        x.list(0, 1);
        DOC.is("look", x.look(0, 1), 4000000000000000013L);
        int[] due = {3, 1, 0, 1, 0, 1};
        for (int k = 0; k < due.length; k++) {
            DOC.is("they are counted likewise, " + (-1 - k), x.count(11 + k), due[k]);
        }
    }

    private static void notCounted() {
        DOC.says("Terms", "Not counted: of LISTS -11 it is missing, -13 no such place, -14 a size below 0.");
        LettersThatPass x = Due.with("", "a");
        DOC.is("-11", x.put(0, 0, 0), -11);
        DOC.is("-11", x.look(0, 0), Due.FAR + 11);
        DOC.is("-11", x.from(0, 0, 1), -11);
        DOC.is("-11", x.lays(0, 0, 0), -11);
        DOC.is("-11", x.judge(0, 0), -11);
        DOC.is("-14", x.list(0, -1), -14);
        DOC.is("it is still missing", x.judge(0, 0), -11);
        x.list(0, 0);
        DOC.is("-13", x.put(0, 0, 0), -13);
        DOC.is("-13", x.look(0, 0), Due.FAR + 13);
        DOC.is("-13", x.from(0, 0, 1), -13);
        DOC.is("-13", x.lays(0, 0, 0), -13);
        for (int what = 11; what <= 16; what++) {
            DOC.is("none, " + what, x.count(what), 0);
        }
    }

    /** What the interface says stands in the source, ahead of the calls that it names. */
    private static void groups() throws IOException {
        String source = Files.readString(Path.of("src/main/java/LettersThatPass.java"));
        String[][] groups = {
            {"letters, words", "letter", "passes", "ranks", "of", "rules", "word", "at", "drop"},
            {"blocks, least words", "alike", "blocks", "least", "copies", "seen", "spread", "odds"},
            {"beginnings, products, roots", "begins", "common", "product", "power", "changes", "root", "parts"},
            {"turned, counted", "turned", "turn", "apart", "unlike", "free", "lots"},
            {"lists of numbers", "list", "put", "look", "from", "lays", "judge"},
            {"the image", "undo", "image", "on", "count"}};
        int ahead = 0;
        for (String[] group : groups) {
            int place = source.indexOf("// ---- " + group[0] + "\n");
            DOC.is("in the document's order: " + group[0], place > ahead ? 1 : 0, 1);
            StringBuilder calls = new StringBuilder();
            for (int k = 1; k < group.length; k++) {
                calls.append(k > 1 ? ", `" : "`").append(group[k]).append('`');
                ahead = place;
                place = placeOfCall(source, group[k]);
                DOC.is("in the document's order: " + group[k], place > ahead ? 1 : 0, 1);
            }
            ahead = place;
            DOC.says("Terms", "Ahead of the calls " + calls + " the interface says: ---- " + group[0] + ".");
        }
    }

    private static int placeOfCall(String source, String name) {
        int place = source.indexOf("public int " + name + "(");
        return place >= 0 ? place : source.indexOf("public long " + name + "(");
    }
}
