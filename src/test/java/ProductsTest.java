/** Promises 17 to 23. */
public final class ProductsTest {
    private static final Due DUE = new Due("ProductsTest");

    public static void main(String[] args) {
        begins();
        common();
        product();
        power();
        changes();
        root();
        parts();
        DUE.end();
    }

    private static void begins() {
        LettersThatPass x = Due.with("ac,bd", "bacda", "bc", "ca", "", "bacdaf");
        DUE.is("begins 0 1", x.begins(0, 1, -1), 1);
        DUE.is("rest", Due.spell(i -> x.begins(0, 1, i)), "ada");
        DUE.is("begins 0 2", x.begins(0, 2, -1), 0);
        DUE.is("no rest", x.begins(0, 2, 0), -9);
        DUE.is("begins 0 3", x.begins(0, 3, -1), 1);
        DUE.is("rest after none", Due.spell(i -> x.begins(0, 3, i)), "bacda");
        DUE.is("begins 0 0", x.begins(0, 0, -1), 1);
        DUE.is("no letters left", x.begins(0, 0, 0), -9);
        DUE.is("begins 3 0", x.begins(3, 0, -1), 0);
        DUE.is("begins 0 4", x.begins(0, 4, -1), 0);
        DUE.is("begins 4 0", x.begins(4, 0, -1), 1);
        DUE.is("beyond", x.begins(0, 1, 3), -9);
        x.ranks(0, 2);
        DUE.is("rest by ranks", Due.spell(i -> x.begins(0, 3, i)), "bcada");
        DUE.refused(x, "begins 5 0", () -> x.begins(5, 0, -2), -1);
        DUE.refused(x, "begins 0 -1", () -> x.begins(0, -1, -2), -1);
        DUE.refused(x, "begins i -2", () -> x.begins(0, 1, -2), -4);
    }

    private static void common() {
        LettersThatPass x = Due.with("ac,bd", "bacda", "bcc", "d", "", "bcaad");
        DUE.is("common 0 1", x.common(0, 1, -1), 2);
        DUE.is("letters", Due.spell(i -> x.common(0, 1, i)), "bc");
        DUE.is("common 0 2", x.common(0, 2, -1), 0);
        DUE.is("no letter", x.common(0, 2, 0), -9);
        DUE.is("common 0 3", x.common(0, 3, -1), 0);
        DUE.is("common 0 4", Due.spell(i -> x.common(0, 4, i)), "bac");
        DUE.is("common 0 0", Due.spell(i -> x.common(0, 0, i)), "bacda");
        DUE.refused(x, "common 5 0", () -> x.common(5, 0, -2), -1);
        DUE.refused(x, "common 0 5", () -> x.common(0, 5, -2), -1);
        DUE.refused(x, "common i -2", () -> x.common(0, 1, -2), -4);
    }

    private static void product() {
        LettersThatPass x = Due.with("ab", "ba7", "ba", "");
        DUE.refused(x, "15 and more", () -> x.product(0, 0), -6);
        DUE.is("product 1 0", x.product(1, 0), 3);
        DUE.is("told as it is", Due.told(x, 3), "babaaaaaaa");
        DUE.refused(x, "product -1", () -> x.product(-1, 0), -1);
        DUE.refused(x, "product 4", () -> x.product(0, 4), -1);
        DUE.is("product 2 2", x.product(2, 2), 4);
        DUE.is("none", x.at(4, -1), 0);
        DUE.refused(x, "five there are", () -> x.product(2, 2), -6);
        DUE.refused(x, "five, no such word", () -> x.product(5, 2), -1);
        LettersThatPass y = Due.with("", "abcdefa", "b8");
        DUE.is("14", y.product(0, 0), 2);
        DUE.is("14 told", Due.told(y, 2), "abcdefaabcdefa");
        DUE.refused(y, "15", () -> y.product(0, 1), -6);
    }

    private static void power() {
        LettersThatPass x = Due.with("", "abcdefa", "", "b");
        DUE.refused(x, "power 3", () -> x.power(3, -1), -1);
        DUE.refused(x, "power n -1", () -> x.power(0, -1), -4);
        DUE.refused(x, "power 21", () -> x.power(0, 3), -6);
        DUE.refused(x, "power 15", () -> x.power(2, 15), -6);
        DUE.refused(x, "power greatest", () -> x.power(2, Integer.MAX_VALUE), -6);
        DUE.refused(x, "power that wraps round", () -> x.power(0, 613566757), -6);
        DUE.is("power 14", x.power(0, 2), 3);
        DUE.is("told", Due.told(x, 3), "abcdefaabcdefa");
        x.drop();
        DUE.is("power 0", x.power(0, 0), 3);
        DUE.is("none", x.at(3, -1), 0);
        DUE.is("none, greatest times", x.power(1, Integer.MAX_VALUE), 4);
        DUE.is("none", x.at(4, -1), 0);
        DUE.refused(x, "five there are", () -> x.power(1, 1), -6);
        DUE.refused(x, "five there are, n -1", () -> x.power(1, -1), -4);
    }

    private static void changes() {
        LettersThatPass x = Due.with("ac,bc", "ab", "c", "abab", "ba", "");
        DUE.is("ab c", x.changes(0, 1), 1);
        DUE.is("ab abab", x.changes(0, 2), 1);
        DUE.is("ab ba", x.changes(0, 3), 0);
        DUE.is("ab none", x.changes(0, 4), 1);
        DUE.is("c c", x.changes(1, 1), 1);
        DUE.refused(x, "changes 5", () -> x.changes(5, 0), -1);
        DUE.refused(x, "changes -1", () -> x.changes(0, -1), -1);
        LettersThatPass y = Due.with("", "(abcdefa)2", "abcdefa", "a9b5");
        DUE.is("28 letters", y.changes(0, 0), 1);
        DUE.is("powers of one", y.changes(0, 1), 1);
        DUE.is("28 letters, not", y.changes(0, 2), 0);
    }

    private static void root() {
        LettersThatPass x = Due.with("ab,<ab", "aabb", "abc", "a9a5", "acbacb", "");
        DUE.is("aabb", x.root(0, -1), 2);
        DUE.is("r", Due.spell(i -> x.root(0, i)), "ba");
        DUE.is("abc", x.root(1, -1), 1);
        DUE.is("r", Due.spell(i -> x.root(1, i)), "bac");
        DUE.is("14 a", x.root(2, -1), 14);
        DUE.is("r", Due.spell(i -> x.root(2, i)), "a");
        DUE.is("acbacb", x.root(3, -1), 2);
        DUE.refused(x, "empty", () -> x.root(4, -1), -3);
        DUE.refused(x, "empty, -2", () -> x.root(4, -2), -4);
        DUE.refused(x, "root 5", () -> x.root(5, -2), -1);
        LettersThatPass y = Due.with("", "aabb", "abba", "(ab)6", "(abcdefa)2");
        DUE.is("aabb", y.root(0, -1), 1);
        DUE.is("abba", y.root(1, -1), 1);
        DUE.is("(ab)6", y.root(2, -1), 6);
        DUE.is("14", y.root(3, -1), 2);
        DUE.is("r", Due.spell(i -> y.root(3, i)), "abcdefa");
        LettersThatPass z = Due.with("ab", "a6b4", "a6b3", "a4b2cc");
        DUE.is("a6b4", z.root(0, -1), 2);
        DUE.is("a6b3", z.root(1, -1), 3);
        DUE.is("a4b2cc", z.root(2, -1), 1);
    }

    private static void parts() {
        LettersThatPass x = Due.with("ab,ac,ad,bd", "abc", "abd", "abcd", "", "ff");
        DUE.is("abc", x.parts(0, -1), 2);
        DUE.is("of a", x.parts(0, 0), 1);
        DUE.is("of b", x.parts(0, 1), 6);
        DUE.is("of d", x.parts(0, 3), 0);
        DUE.is("abd", x.parts(1, -1), 3);
        DUE.is("abcd", x.parts(2, -1), 2);
        DUE.is("b by way of c", x.parts(2, 1), 14);
        DUE.is("none", x.parts(3, -1), 0);
        DUE.is("none of a", x.parts(3, 0), 0);
        DUE.is("ff", x.parts(4, 5), 32);
        DUE.refused(x, "parts 5", () -> x.parts(5, 0), -1);
        DUE.refused(x, "parts a -2", () -> x.parts(0, -2), -1);
        DUE.refused(x, "parts a 6", () -> x.parts(0, 6), -1);
    }
}
