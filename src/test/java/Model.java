import java.util.ArrayDeque;
import java.util.ArrayList;
import java.util.Arrays;
import java.util.HashMap;
import java.util.HashSet;
import java.util.LinkedHashMap;
import java.util.List;
import java.util.Map;
import java.util.Set;
import java.util.TreeSet;

/**
 * The document in its most literal form: WORDS are Strings, and what is ALIKE is found by changing neighbours.
 * Answers for which that would take too long are SKIPPED.
 */
final class Model {
    static final long SKIPPED = Long.MIN_VALUE;
    private static final int MOST_ALIKE = 1500;
    private static final long FAR = 4000000000000000000L;

    private boolean[][] pass = new boolean[6][6];
    private int[] rank = {0, 1, 2, 3, 4, 5};
    private List<String> words = new ArrayList<>();
    private final StringBuilder typed = new StringBuilder();
    private final int[][] lists = new int[3][];
    private final List<Object[]> undone = new ArrayList<>();
    private Object[] kept = null;
    private final int[] refused = new int[7];

    private int no(int refusal) {
        refused[-refusal]++;
        return refusal;
    }

    private boolean noWord(int w) {
        return w < 0 || w >= words.size();
    }

    private static boolean noLetter(int a) {
        return a < 0 || a > 5;
    }

    private Object[] laws() {
        boolean[][] copy = new boolean[6][];
        for (int a = 0; a < 6; a++) {
            copy[a] = pass[a].clone();
        }
        return new Object[] {copy, rank.clone(), new ArrayList<>(words)};
    }

    private void remember() {
        undone.add(laws());
        if (undone.size() > 8) {
            undone.remove(0);
        }
    }

    @SuppressWarnings("unchecked")
    private void restore(Object[] earlier, boolean wordsToo) {
        boolean[][] then = (boolean[][]) earlier[0];
        for (int a = 0; a < 6; a++) {
            pass[a] = then[a].clone();
        }
        rank = ((int[]) earlier[1]).clone();
        if (wordsToo) {
            words = new ArrayList<>((List<String>) earlier[2]);
        }
    }

    int words() {
        return words.size();
    }

    // ---- what is literal

    private boolean passing(char a, char b) {
        return pass[a - 'a'][b - 'a'];
    }

    /** null: there are too many. */
    private Set<String> allAlike(String word) {
        Set<String> all = new HashSet<>();
        ArrayDeque<String> open = new ArrayDeque<>();
        all.add(word);
        open.add(word);
        while (!open.isEmpty()) {
            String one = open.poll();
            for (int k = 0; k + 1 < one.length(); k++) {
                if (passing(one.charAt(k), one.charAt(k + 1))) {
                    String other = one.substring(0, k) + one.charAt(k + 1) + one.charAt(k) + one.substring(k + 2);
                    if (all.add(other)) {
                        open.add(other);
                    }
                }
            }
            if (all.size() > MOST_ALIKE) {
                return null;
            }
        }
        return all;
    }

    private boolean ready(String word, int place) {
        for (int k = 0; k < place; k++) {
            if (!passing(word.charAt(k), word.charAt(place))) {
                return false;
            }
        }
        return true;
    }

    private static String without(String word, int place) {
        return word.substring(0, place) + word.substring(place + 1);
    }

    private String taken(String word, boolean greatest) {
        String rest = word;
        StringBuilder out = new StringBuilder();
        while (!rest.isEmpty()) {
            int best = -1;
            for (int k = 0; k < rest.length(); k++) {
                if (ready(rest, k)) {
                    int r = rank[rest.charAt(k) - 'a'];
                    int b = best < 0 ? 0 : rank[rest.charAt(best) - 'a'];
                    if (best < 0 || (greatest ? r > b : r < b)) {
                        best = k;
                    }
                }
            }
            out.append(rest.charAt(best));
            rest = without(rest, best);
        }
        return out.toString();
    }

    private static String only(String word, char a, char b) {
        StringBuilder out = new StringBuilder();
        for (char c : word.toCharArray()) {
            if (c == a || c == b) {
                out.append(c);
            }
        }
        return out.toString();
    }

    /** What is seen of each two letters that don't pass is the same, just if two words are alike. */
    private boolean same(String one, String other) {
        for (char a = 'a'; a <= 'f'; a++) {
            for (char b = a; b <= 'f'; b++) {
                if (!passing(a, b) && !only(one, a, b).equals(only(other, a, b))) {
                    return false;
                }
            }
        }
        return true;
    }

    private static int letterAt(String word, int i) {
        return i < word.length() ? word.charAt(i) - 'a' : -9;
    }

    // ---- letters, words

    long letter(int c) {
        if (c < 0) {
            return no(-4);
        }
        if (c > 255 || typed.length() == 72) {
            return no(-6);
        }
        return typed.append((char) c).length();
    }

    long passes(int a, int b) {
        if (noLetter(a) || noLetter(b) || a == b) {
            return no(-1);
        }
        remember();
        pass[a][b] = !pass[a][b];
        pass[b][a] = pass[a][b];
        return pass[a][b] ? 1 : 0;
    }

    long ranks(int a, int b) {
        if (noLetter(a) || noLetter(b) || a == b) {
            return no(-1);
        }
        remember();
        int r = rank[a];
        rank[a] = rank[b];
        rank[b] = r;
        return rank[a];
    }

    long of(int a, int what) {
        if (noLetter(a)) {
            return no(-1);
        }
        if (what < 0 || what > 1) {
            return no(-2);
        }
        int bits = 0;
        for (int b = 0; b < 6; b++) {
            bits += pass[a][b] ? 1 << b : 0;
        }
        return what == 0 ? rank[a] : bits;
    }

    private static final String RULE = "(?:<?([a-f])(?!\\1)[a-f])";

    /** The longest beginning that goes on to some text is found by trying what may follow. */
    private static boolean rulesGoOn(String text) {
        String[] ends = {"", "a", "b", "ab", ",ab"};
        for (String end : ends) {
            if (rulesWhole(text + end)) {
                return true;
            }
        }
        return false;
    }

    private static boolean rulesWhole(String text) {
        for (String rule : text.split(",", -1)) {
            if (!rule.matches(RULE)) {
                return false;
            }
        }
        return true;
    }

    long rules() {
        String text = typed.toString();
        typed.setLength(0);
        if (!rulesWhole(text)) {
            int good = 0;
            while (good < text.length() && rulesGoOn(text.substring(0, good + 1))) {
                good++;
            }
            return -1000 - good;
        }
        Object[] before = laws();
        List<Object[]> earlier = new ArrayList<>(undone);
        String[] all = text.split(",");
        for (String rule : all) {
            int a = rule.charAt(rule.length() - 2) - 'a';
            int b = rule.charAt(rule.length() - 1) - 'a';
            if (rule.length() == 3) {
                ranks(a, b);
            } else {
                passes(a, b);
            }
        }
        undone.clear();
        undone.addAll(earlier);
        undone.add(before);
        if (undone.size() > 8) {
            undone.remove(0);
        }
        return all.length;
    }

    private String text;
    private int place;

    /** null: a fault at place. Counts are cut: what is longer than 20 letters is longer than 14. */
    private String items(int open) {
        StringBuilder out = new StringBuilder();
        while (place < text.length() && text.charAt(place) != ')') {
            char c = text.charAt(place);
            String item;
            if (c >= 'a' && c <= 'f') {
                item = String.valueOf(c);
            } else if (c == '(' && open < 5) {
                place++;
                item = items(open + 1);
                if (item == null || place >= text.length()) {
                    return null;
                }
            } else {
                return null;
            }
            place++;
            if (place < text.length() && Character.isDigit(text.charAt(place))) {
                item = item.repeat(text.charAt(place) - '0');
                place++;
            }
            out.append(item.length() > 20 ? item.substring(0, 20) : item);
            if (out.length() > 40) {
                out.setLength(40);
            }
        }
        return out.toString();
    }

    long word() {
        text = typed.toString();
        typed.setLength(0);
        place = 0;
        String told = items(0);
        if (told == null || place < text.length()) {
            return -1000 - place;
        }
        if (told.length() > 14 || words.size() == 5) {
            return -2000;
        }
        words.add(told);
        return words.size() - 1;
    }

    long at(int word, int i) {
        if (noWord(word)) {
            return no(-1);
        }
        if (i < -1) {
            return no(-4);
        }
        return i == -1 ? words.get(word).length() : letterAt(words.get(word), i);
    }

    long drop() {
        if (words.isEmpty()) {
            return no(-3);
        }
        words.remove(words.size() - 1);
        return words.size();
    }

    // ---- blocks, least words

    long alike(int one, int other) {
        if (noWord(one) || noWord(other)) {
            return no(-1);
        }
        return same(words.get(one), words.get(other)) ? 1 : 0;
    }

    long blocks(int word, int k) {
        if (noWord(word)) {
            return no(-1);
        }
        if (k < -1) {
            return no(-4);
        }
        String rest = words.get(word);
        List<Integer> all = new ArrayList<>();
        while (!rest.isEmpty()) {
            int bits = 0;
            StringBuilder left = new StringBuilder();
            for (int p = 0; p < rest.length(); p++) {
                if (ready(rest, p)) {
                    bits |= 1 << rest.charAt(p) - 'a';
                } else {
                    left.append(rest.charAt(p));
                }
            }
            all.add(bits);
            rest = left.toString();
        }
        return k == -1 ? all.size() : k < all.size() ? all.get(k) : 0;
    }

    long least(int word, int i, int which) {
        if (noWord(word)) {
            return no(-1);
        }
        if (i < 0) {
            return no(-4);
        }
        if (which < 0 || which > 1) {
            return no(-2);
        }
        return letterAt(taken(words.get(word), which == 1), i);
    }

    private long orders(String word, Map<String, Long> known) {
        if (word.isEmpty()) {
            return 1;
        }
        Long before = known.get(word);
        if (before != null) {
            return before;
        }
        long sum = 0;
        for (int k = 0; k < word.length(); k++) {
            if (ready(word, k)) {
                sum += orders(without(word, k), known);
            }
        }
        known.put(word, sum);
        return sum;
    }

    long copies(int word) {
        if (noWord(word)) {
            return FAR - no(-1);
        }
        Set<String> all = allAlike(words.get(word));
        return all != null ? all.size() : orders(words.get(word), new HashMap<>());
    }

    long seen(int word, int a, int b, int i) {
        if (noWord(word) || noLetter(a) || noLetter(b)) {
            return no(-1);
        }
        if (i < 0) {
            return no(-4);
        }
        return letterAt(only(words.get(word), (char) ('a' + a), (char) ('a' + b)), i);
    }

    long spread(int word, int a, int n, int what) {
        if (noWord(word) || noLetter(a)) {
            return no(-1);
        }
        if (n < 0) {
            return no(-4);
        }
        if (what < 0 || what > 1) {
            return no(-2);
        }
        Set<String> all = allAlike(words.get(word));
        if (all == null) {
            return SKIPPED;
        }
        int best = -9;
        for (String one : all) {
            int place = -1;
            for (int k = 0; k <= n && k < 20; k++) {
                place = one.indexOf('a' + a, place + 1);
                if (place < 0) {
                    return -9;
                }
            }
            if (best == -9 || (what == 0 ? place < best : place > best)) {
                best = place;
            }
        }
        return best;
    }

    long odds(int word, int part) {
        if (noWord(word)) {
            return FAR - no(-1);
        }
        if (part < 0 || part > 1) {
            return FAR - no(-2);
        }
        String w = words.get(word);
        int above = 0;
        int below = 0;
        for (int k = 0; k < w.length(); k++) {
            if (ready(w, k)) {
                below++;
                above += rank[w.charAt(k) - 'a'] <= 2 ? 1 : 0;
            }
        }
        if (above == 0) {
            return part;
        }
        int d = java.math.BigInteger.valueOf(above).gcd(java.math.BigInteger.valueOf(below)).intValue();
        return (part == 0 ? above : below) / d;
    }

    // ---- beginnings, products, roots

    long begins(int v, int u, int i) {
        if (noWord(v) || noWord(u)) {
            return no(-1);
        }
        if (i < -1) {
            return no(-4);
        }
        Set<String> all = allAlike(words.get(v));
        if (all == null) {
            return SKIPPED;
        }
        String begin = words.get(u);
        for (String one : all) {
            if (one.startsWith(begin)) {
                return i == -1 ? 1 : letterAt(taken(one.substring(begin.length()), false), i);
            }
        }
        return i == -1 ? 0 : -9;
    }

    private Set<String> beginnings(String word) {
        Set<String> all = allAlike(word);
        if (all == null) {
            return null;
        }
        Set<String> begin = new HashSet<>();
        for (String one : all) {
            for (int k = 0; k <= one.length(); k++) {
                begin.add(taken(one.substring(0, k), false));
            }
        }
        return begin;
    }

    long common(int u, int v, int i) {
        if (noWord(u) || noWord(v)) {
            return no(-1);
        }
        if (i < -1) {
            return no(-4);
        }
        Set<String> one = beginnings(words.get(u));
        Set<String> other = beginnings(words.get(v));
        if (one == null || other == null) {
            return SKIPPED;
        }
        String longest = "";
        for (String begin : one) {
            if (other.contains(begin) && begin.length() > longest.length()) {
                longest = begin;
            }
        }
        return i == -1 ? longest.length() : letterAt(longest, i);
    }

    long product(int u, int v) {
        if (noWord(u) || noWord(v)) {
            return no(-1);
        }
        String w = words.get(u) + words.get(v);
        if (w.length() > 14 || words.size() == 5) {
            return no(-6);
        }
        words.add(w);
        return words.size() - 1;
    }

    long power(int u, int n) {
        if (noWord(u)) {
            return no(-1);
        }
        if (n < 0) {
            return no(-4);
        }
        String w = words.get(u);
        if (Math.multiplyFull(w.length(), n) > 14 || words.size() == 5) {
            return no(-6);
        }
        words.add(w.isEmpty() ? "" : w.repeat(n));
        return words.size() - 1;
    }

    long changes(int u, int v) {
        if (noWord(u) || noWord(v)) {
            return no(-1);
        }
        return same(words.get(u) + words.get(v), words.get(v) + words.get(u)) ? 1 : 0;
    }

    long root(int word, int i) {
        if (noWord(word)) {
            return no(-1);
        }
        if (i < -1) {
            return no(-4);
        }
        String w = words.get(word);
        if (w.isEmpty()) {
            return no(-3);
        }
        Set<String> all = allAlike(w);
        if (all == null) {
            return SKIPPED;
        }
        for (int k = w.length(); k >= 1; k--) {
            for (String one : all) {
                String r = one.substring(0, w.length() / k);
                if (w.length() % k == 0 && same(r.repeat(k), w)) {
                    return i == -1 ? k : letterAt(taken(r, false), i);
                }
            }
        }
        return SKIPPED;
    }

    long parts(int word, int a) {
        if (noWord(word) || a < -1 || a > 5) {
            return no(-1);
        }
        int[] part = new int[6];
        for (char c : words.get(word).toCharArray()) {
            part[c - 'a'] = 1 << c - 'a';
        }
        for (int turn = 0; turn < 6; turn++) {
            for (int b = 0; b < 6; b++) {
                for (int c = 0; c < 6; c++) {
                    if (part[b] != 0 && part[c] != 0 && !pass[b][c]) {
                        part[b] |= part[c];
                    }
                }
            }
        }
        return a >= 0 ? part[a] : Arrays.stream(part).filter(p -> p != 0).distinct().count();
    }

    // ---- turned, counted

    private Map<String, Integer> moves(String word) {
        Map<String, Integer> far = new LinkedHashMap<>();
        ArrayDeque<String> open = new ArrayDeque<>();
        String start = taken(word, false);
        far.put(start, 0);
        open.add(start);
        while (!open.isEmpty()) {
            String one = open.poll();
            for (int k = 0; k < one.length(); k++) {
                if (ready(one, k)) {
                    String next = taken(without(one, k) + one.charAt(k), false);
                    if (!far.containsKey(next)) {
                        far.put(next, far.get(one) + 1);
                        open.add(next);
                    }
                }
            }
        }
        return far;
    }

    long turned(int word) {
        if (noWord(word)) {
            return no(-1);
        }
        if (words.get(word).length() > 7) {
            return no(-6);
        }
        return moves(words.get(word)).size();
    }

    long turn(int word, int k, int i) {
        if (noWord(word)) {
            return no(-1);
        }
        if (k < 0 || i < 0) {
            return no(-4);
        }
        if (words.get(word).length() > 7) {
            return no(-6);
        }
        List<String> sorted = new ArrayList<>(new TreeSet<>(moves(words.get(word)).keySet()));
        return k < sorted.size() ? letterAt(sorted.get(k), i) : -9;
    }

    long apart(int u, int v) {
        if (noWord(u) || noWord(v)) {
            return no(-1);
        }
        if (words.get(u).length() > 7 || words.get(v).length() > 7) {
            return no(-6);
        }
        return moves(words.get(u)).getOrDefault(taken(words.get(v), false), -9);
    }

    private void allWords(String begin, int n, int m, Set<String> least) {
        if (begin.length() == n) {
            least.add(taken(begin, false));
            return;
        }
        for (int a = 0; a < m; a++) {
            allWords(begin + (char) ('a' + a), n, m, least);
        }
    }

    long unlike(int n, int m) {
        if (n < 0 || m < 1) {
            return FAR - no(-4);
        }
        if (n > 12 || m > 6) {
            return FAR - no(-6);
        }
        if (Math.pow(m, n) > 4096) {
            return SKIPPED;
        }
        Set<String> least = new HashSet<>();
        allWords("", n, m, least);
        return least.size();
    }

    long free() {
        int many = 0;
        for (int set = 0; set < 64; set++) {
            boolean all = true;
            for (int a = 0; a < 6; a++) {
                for (int b = 0; b < a; b++) {
                    all &= (set >> a & set >> b & 1) == 0 || pass[a][b];
                }
            }
            many += all ? 1 : 0;
        }
        return many;
    }

    long lots(int word, int n, int z, int what) {
        if (noWord(word)) {
            return no(-1);
        }
        if (n < 1) {
            return no(-4);
        }
        if (n > 60) {
            return no(-6);
        }
        if (what < 0 || what > 1) {
            return no(-2);
        }
        String w = words.get(word);
        if (w.length() < 2) {
            return no(-3);
        }
        StringBuilder row = new StringBuilder(w);
        long seed = z & 0xffffffffL;
        int times = 0;
        for (int k = 0; k < n; k++) {
            seed = (seed * 1664525L + 1013904223L) % 4294967296L;
            int p = (int) (seed % 2147483648L / 256 % (w.length() - 1));
            char first = row.charAt(p);
            char next = row.charAt(p + 1);
            if (passing(first, next)) {
                row.setCharAt(p, next);
                row.setCharAt(p + 1, first);
                times++;
            }
        }
        int other = 0;
        for (int k = 0; k < w.length(); k++) {
            other += row.charAt(k) != w.charAt(k) ? 1 : 0;
        }
        return what == 0 ? times : other;
    }

    // ---- lists of numbers

    long list(int list, int n) {
        if (list < 0 || list > 2) {
            return no(-1);
        }
        if (n > 40) {
            return no(-6);
        }
        if (n < 0) {
            return -14;
        }
        lists[list] = new int[n];
        return 1;
    }

    long put(int list, int i, int v) {
        if (list < 0 || list > 2) {
            return no(-1);
        }
        if (lists[list] == null) {
            return -11;
        }
        if (i < 0 || i >= lists[list].length) {
            return -13;
        }
        lists[list][i] = v;
        return 1;
    }

    long look(int list, int i) {
        if (list < 0 || list > 2) {
            return FAR - no(-1);
        }
        if (lists[list] == null) {
            return FAR + 11;
        }
        if (i < 0 || i >= lists[list].length) {
            return FAR + 13;
        }
        return lists[list][i];
    }

    private boolean onePlaceLacks(int list, int i, int n) {
        for (int k = 0; k < n; k++) {
            long place = (long) i + k;
            if (place < 0 || place >= lists[list].length) {
                return true;
            }
        }
        return false;
    }

    long from(int list, int i, int n) {
        if (list < 0 || list > 2) {
            return no(-1);
        }
        if (n < 0) {
            return no(-4);
        }
        if (n > 14 || words.size() == 5) {
            return no(-6);
        }
        if (lists[list] == null) {
            return -11;
        }
        if (onePlaceLacks(list, i, n)) {
            return -13;
        }
        StringBuilder w = new StringBuilder();
        for (int k = 0; k < n; k++) {
            int number = lists[list][i + k];
            if (noLetter(number)) {
                return no(-3);
            }
            w.append((char) ('a' + number));
        }
        words.add(w.toString());
        return words.size() - 1;
    }

    long lays(int list, int i, int word) {
        if (list < 0 || list > 2 || noWord(word)) {
            return no(-1);
        }
        if (lists[list] == null) {
            return -11;
        }
        String w = taken(words.get(word), false);
        if (onePlaceLacks(list, i, w.length())) {
            return -13;
        }
        for (int k = 0; k < w.length(); k++) {
            lists[list][i + k] = w.charAt(k) - 'a';
        }
        return w.length();
    }

    long judge(int list, int word) {
        if (list < 0 || list > 2 || noWord(word)) {
            return no(-1);
        }
        if (lists[list] == null) {
            return -11;
        }
        String w = words.get(word);
        for (int k = 0; k < lists[list].length; k++) {
            if (k >= w.length() || lists[list][k] != w.charAt(k) - 'a') {
                return k;
            }
        }
        return -9;
    }

    // ---- the image

    long undo() {
        if (undone.isEmpty()) {
            return no(-3);
        }
        restore(undone.remove(undone.size() - 1), false);
        return undone.size();
    }

    long image() {
        kept = laws();
        return words.size();
    }

    long on() {
        if (kept == null) {
            return no(-3);
        }
        restore(kept, true);
        undone.clear();
        return words.size();
    }

    long count(int what) {
        if (what >= 11 && what <= 16) {
            return refused[what - 10];
        }
        int pairs = 0;
        for (int a = 0; a < 6; a++) {
            for (int b = 0; b < a; b++) {
                pairs += pass[a][b] ? 1 : 0;
            }
        }
        long[] all = {words.size(), typed.length(), String.join("", words).length(), pairs, undone.size()};
        return what >= 0 && what < all.length ? all[what] : -9;
    }
}
