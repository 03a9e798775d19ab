/** Promises 30 to 35. */
public final class ListsTest {
    private static final Due DUE = new Due("ListsTest");

    public static void main(String[] args) {
        list();
        put();
        look();
        from();
        fromNoNumbers();
        lays();
        laysNone();
        judge();
        DUE.end();
    }

    /** Answers that are not counted as REFUSALS. */
    private static void uncounted(LettersThatPass x, String call, java.util.function.LongSupplier asking, long want) {
        int before = refusals(x);
        DUE.is(call, asking.getAsLong(), want);
        DUE.is(call + ": not counted", refusals(x), before);
    }

    private static int refusals(LettersThatPass x) {
        int all = 0;
        for (int what = 11; what <= 16; what++) {
            all += x.count(what);
        }
        return all;
    }

    private static void list() {
        LettersThatPass x = new LettersThatPass();
        DUE.is("list 0 40", x.list(0, 40), 1);
        DUE.is("list 2 0", x.list(2, 0), 1);
        DUE.is("last place", x.look(0, 39), 0);
        uncounted(x, "no place", () -> x.look(0, 40), Due.FAR + 13);
        uncounted(x, "size 0", () -> x.look(2, 0), Due.FAR + 13);
        uncounted(x, "missing", () -> x.look(1, 0), Due.FAR + 11);
        x.put(0, 3, 77);
        DUE.is("anew", x.list(0, 5), 1);
        DUE.is("all 0", x.look(0, 3), 0);
        uncounted(x, "shorter", () -> x.look(0, 5), Due.FAR + 13);
        DUE.refused(x, "list -1", () -> x.list(-1, 41), -1);
        DUE.refused(x, "list 3", () -> x.list(3, -1), -1);
        DUE.refused(x, "list 41", () -> x.list(0, 41), -6);
        uncounted(x, "list size -1", () -> x.list(0, -1), -14);
        uncounted(x, "list size least", () -> x.list(0, Integer.MIN_VALUE), -14);
        DUE.is("still there", x.look(0, 4), 0);
    }

    private static void put() {
        LettersThatPass x = new LettersThatPass();
        x.list(1, 3);
        DUE.is("put", x.put(1, 2, Integer.MIN_VALUE), 1);
        DUE.is("look", x.look(1, 2), Integer.MIN_VALUE);
        DUE.is("others", x.look(1, 1), 0);
        DUE.refused(x, "put 3", () -> x.put(3, 9, 1), -1);
        DUE.refused(x, "put -1", () -> x.put(-1, 0, 1), -1);
        uncounted(x, "put 0", () -> x.put(0, 0, 1), -11);
        uncounted(x, "put place 3", () -> x.put(1, 3, 1), -13);
        uncounted(x, "put place -1", () -> x.put(1, -1, 1), -13);
    }

    private static void look() {
        LettersThatPass x = new LettersThatPass();
        x.list(0, 2);
        x.put(0, 1, Integer.MAX_VALUE);
        DUE.is("look", x.look(0, 1), Integer.MAX_VALUE);
        DUE.refusedFar(x, "look 3", () -> x.look(3, 0), -1);
        DUE.refusedFar(x, "look -1", () -> x.look(-1, 0), -1);
        uncounted(x, "look 1", () -> x.look(1, 0), Due.FAR + 11);
        uncounted(x, "look place 2", () -> x.look(0, 2), Due.FAR + 13);
        uncounted(x, "look place -1", () -> x.look(0, -1), Due.FAR + 13);
        uncounted(x, "look place greatest", () -> x.look(0, Integer.MAX_VALUE), Due.FAR + 13);
    }

    private static void from() {
        LettersThatPass x = new LettersThatPass();
        x.list(0, 20);
        for (int k = 0; k < 20; k++) {
            x.put(0, k, k % 6);
        }
        DUE.is("from 0 2 5", x.from(0, 2, 5), 0);
        DUE.is("told", Due.told(x, 0), "cdefa");
        DUE.is("from 0 6 14", x.from(0, 6, 14), 1);
        DUE.is("told", Due.told(x, 1), "abcdefabcdefab");
        DUE.is("from 0 20 0", x.from(0, 20, 0), 2);
        DUE.is("told", Due.told(x, 2), "");
        DUE.refused(x, "from 3", () -> x.from(3, 0, -1), -1);
        DUE.refused(x, "from n -1", () -> x.from(1, 0, -1), -4);
        DUE.refused(x, "from n 15", () -> x.from(1, 0, 15), -6);
        uncounted(x, "from 1", () -> x.from(1, 0, 1), -11);
        uncounted(x, "from 0 7 14", () -> x.from(0, 7, 14), -13);
        uncounted(x, "from 0 -1 2", () -> x.from(0, -1, 2), -13);
        uncounted(x, "from 0 greatest 2", () -> x.from(0, Integer.MAX_VALUE, 2), -13);
        x.put(0, 4, 6);
        DUE.refused(x, "from 6", () -> x.from(0, 3, 2), -3);
        x.put(0, 4, -1);
        DUE.refused(x, "from -1", () -> x.from(0, 4, 1), -3);
        x.list(2, 3);
        x.put(2, 0, 6);
        uncounted(x, "places ahead of letters", () -> x.from(2, 0, 4), -13);
        DUE.is("none of it came", x.count(0), 3);
        x.word();
        x.word();
        DUE.refused(x, "five there are", () -> x.from(1, 0, 1), -6);
        DUE.refused(x, "five there are, n -1", () -> x.from(1, 0, -1), -4);
    }

    /** Places that no LIST has, of which nothing is asked. */
    private static final int[] AWAY = {1, 3, 40, 41, -1, -40, Integer.MAX_VALUE, Integer.MIN_VALUE};

    private static void fromNoNumbers() {
        for (int i : AWAY) {
            LettersThatPass x = new LettersThatPass();
            uncounted(x, "none from a LIST that is missing, " + i, () -> x.from(0, i, 0), -11);
            x.list(0, 0);
            x.list(1, 2);
            uncounted(x, "none from an empty LIST, " + i, () -> x.from(0, i, 0), 0);
            uncounted(x, "none from a LIST, " + i, () -> x.from(1, i, 0), 1);
            DUE.is("an empty WORD", x.at(1, -1), 0);
            uncounted(x, "one from an empty LIST, " + i, () -> x.from(0, i, 1), -13);
            DUE.refused(x, "none of no LIST, " + i, () -> x.from(3, i, 0), -1);
            x.word();
            x.word();
            x.word();
            DUE.refused(x, "none, five there are, " + i, () -> x.from(0, i, 0), -6);
        }
        LettersThatPass y = new LettersThatPass();
        y.list(0, 1);
        y.put(0, 0, 9);
        DUE.is("none, and the next is no LETTER", y.from(0, 0, 0), 0);
    }

    private static void laysNone() {
        for (int i : AWAY) {
            LettersThatPass x = Due.with("ab", "", "a");
            uncounted(x, "none into a LIST that is missing, " + i, () -> x.lays(0, i, 0), -11);
            x.list(0, 0);
            x.list(1, 1);
            x.put(1, 0, 9);
            uncounted(x, "none into an empty LIST, " + i, () -> x.lays(0, i, 0), 0);
            uncounted(x, "none into a LIST, " + i, () -> x.lays(1, i, 0), 0);
            DUE.is("it stays", x.look(1, 0), 9);
            uncounted(x, "one into an empty LIST, " + i, () -> x.lays(0, i, 1), -13);
            uncounted(x, "one into a LIST, " + i, () -> x.lays(1, i, 1), -13);
            DUE.is("it still stays", x.look(1, 0), 9);
            DUE.refused(x, "none into no LIST, " + i, () -> x.lays(-1, i, 0), -1);
            DUE.refused(x, "no WORD, " + i, () -> x.lays(0, i, 2), -1);
        }
    }

    private static void lays() {
        LettersThatPass x = Due.with("ab", "bac", "");
        x.list(0, 5);
        for (int k = 0; k < 5; k++) {
            x.put(0, k, 9);
        }
        DUE.is("lays 0 1 0", x.lays(0, 1, 0), 3);
        int[] due = {9, 0, 1, 2, 9};
        for (int k = 0; k < 5; k++) {
            DUE.is("laid " + k, x.look(0, k), due[k]);
        }
        uncounted(x, "lays 0 3 0", () -> x.lays(0, 3, 0), -13);
        DUE.is("none is laid", x.look(0, 4), 9);
        uncounted(x, "lays 0 -1 0", () -> x.lays(0, -1, 0), -13);
        uncounted(x, "lays greatest", () -> x.lays(0, Integer.MAX_VALUE, 0), -13);
        DUE.is("lays 0 2 0", x.lays(0, 2, 0), 3);
        DUE.is("laid at the end", x.look(0, 4), 2);
        DUE.is("lays none", x.lays(0, 5, 1), 0);
        DUE.refused(x, "lays 3", () -> x.lays(3, 0, 0), -1);
        DUE.refused(x, "lays word 2", () -> x.lays(1, 0, 2), -1);
        uncounted(x, "lays missing", () -> x.lays(1, 0, 0), -11);
    }

    private static void judge() {
        LettersThatPass x = Due.with("ab", "bac", "");
        x.list(0, 2);
        x.list(1, 4);
        x.list(2, 0);
        DUE.is("otherwise at 0", x.judge(0, 0), 0);
        x.put(0, 0, 1);
        DUE.is("tells fewer", x.judge(0, 0), -9);
        x.put(0, 1, 7);
        DUE.is("otherwise at 1", x.judge(0, 0), 1);
        x.put(1, 0, 1);
        x.put(1, 2, 2);
        DUE.is("isn't there", x.judge(1, 0), 3);
        DUE.is("tells none", x.judge(2, 0), -9);
        DUE.is("tells none of none", x.judge(2, 1), -9);
        DUE.is("none has place 0", x.judge(0, 1), 0);
        DUE.refused(x, "judge 3", () -> x.judge(3, 0), -1);
        DUE.refused(x, "judge word 2", () -> x.judge(0, 2), -1);
        LettersThatPass y = Due.with("", "a");
        uncounted(y, "judge missing", () -> y.judge(0, 0), -11);
        DUE.refused(y, "judge missing, no word", () -> y.judge(0, 1), -1);
    }
}
