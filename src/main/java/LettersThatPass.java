/**
 * Letters some of which may pass. The words in capitals are those of the document.
 *
 * <p>All rows that a call needs are made with the object and used again, so that a call makes nothing.
 */
public final class LettersThatPass {
    private static final int KINDS = 6;
    private static final int LONGEST = 14;
    private static final int LONGEST_PAIR = 2 * LONGEST;
    private static final int MOST_WORDS = 5;
    private static final int MOST_TYPED = 72;
    private static final int LAST_SIGN = 255;
    private static final int MOST_OPEN = 5;
    private static final int MOST_UNDONE = 8;
    private static final int LISTS = 3;
    private static final int LONGEST_LIST = 40;
    private static final int LONGEST_TURNED = 7;
    private static final int LONGEST_COUNTED = 12;
    private static final int MOST_LOTS = 60;
    private static final int LOW_RANKS = 3;
    private static final int ALL_BUT_SIGN = 0x7fffffff;

    private static final int WHOLE = -1;
    private static final int NOBODY = -1;
    private static final int OTHER = -2;
    private static final int STATE = -3;
    private static final int BELOW = -4;
    private static final int ROOM = -6;
    private static final int NONE = -9;
    private static final int MISSING = -11;
    private static final int NO_PLACE = -13;
    private static final int NO_SIZE = -14;
    private static final int MISREAD = -1000;
    private static final int TOO_MUCH = -2000;
    private static final long FAR = 4000000000000000000L;

    private static final int FIRST_REFUSAL = 11;
    private static final int LAST_REFUSAL = 16;

    private final Laws laws = new Laws();
    private final Laws trial = new Laws();
    private final Shelf shelf = new Shelf();
    private final History history = new History();
    private final Laws keptLaws = new Laws();
    private final Shelf keptShelf = new Shelf();
    private boolean kept = false;
    private final Row typed = new Row(MOST_TYPED);
    private final Parser parser = new Parser();
    private final Numbers numbers = new Numbers();
    private final int[] refused = new int[LAST_REFUSAL - FIRST_REFUSAL + 1];
    private final Bench bench = new Bench(laws);
    private final Tally tally = new Tally();
    private final Turner turner = new Turner(laws, bench);
    private final Row draft = new Row(LONGEST_PAIR);
    private final Row second = new Row(LONGEST_PAIR);

    public LettersThatPass() {
    }

    // ---- letters, words

    public int letter(int c) {
        if (c < 0) {
            return refuse(BELOW);
        }
        if (c > LAST_SIGN || typed.size() >= MOST_TYPED) {
            return refuse(ROOM);
        }
        typed.add(c);
        return typed.size();
    }

    public int passes(int a, int b) {
        if (notTwoLetters(a, b)) {
            return refuse(NOBODY);
        }
        history.remember(laws);
        laws.flip(a, b);
        return answer(laws.letPass(a, b));
    }

    public int ranks(int a, int b) {
        if (notTwoLetters(a, b)) {
            return refuse(NOBODY);
        }
        history.remember(laws);
        laws.swapRanks(a, b);
        return laws.rankOf(a);
    }

    public int of(int a, int what) {
        if (noLetter(a)) {
            return refuse(NOBODY);
        }
        if (noSuch(what)) {
            return refuse(OTHER);
        }
        return what == 0 ? laws.rankOf(a) : laws.passedBy(a);
    }

    public int rules() {
        trial.copy(laws);
        int done = parser.readRules(typed, trial);
        typed.clear();
        if (done > 0) {
            history.remember(laws);
            laws.copy(trial);
        }
        return done;
    }

    public int word() {
        int fault = parser.readWord(typed);
        typed.clear();
        if (fault < 0) {
            return fault;
        }
        Row told = parser.told();
        if (told.size() > LONGEST || shelf.isFull()) {
            return TOO_MUCH;
        }
        return shelf.place(told);
    }

    public int at(int word, int i) {
        if (noWord(word)) {
            return refuse(NOBODY);
        }
        if (i < WHOLE) {
            return refuse(BELOW);
        }
        return sizeOrCell(shelf.row(word), i);
    }

    public int drop() {
        if (shelf.size() == 0) {
            return refuse(STATE);
        }
        shelf.removeLast();
        return shelf.size();
    }

    // ---- blocks, least words

    public int alike(int one, int other) {
        if (noWord(one) || noWord(other)) {
            return refuse(NOBODY);
        }
        return answer(bench.sameKind(shelf.row(one), shelf.row(other)));
    }

    public int blocks(int word, int k) {
        if (noWord(word)) {
            return refuse(NOBODY);
        }
        if (k < WHOLE) {
            return refuse(BELOW);
        }
        bench.layBlocks(shelf.row(word), draft);
        if (k == WHOLE) {
            return draft.size();
        }
        return k < draft.size() ? draft.get(k) : 0;
    }

    public int least(int word, int i, int which) {
        if (noWord(word)) {
            return refuse(NOBODY);
        }
        if (i < 0) {
            return refuse(BELOW);
        }
        if (noSuch(which)) {
            return refuse(OTHER);
        }
        bench.arrange(shelf.row(word), which == 1, draft);
        return draft.get(i);
    }

    public long copies(int word) {
        if (noWord(word)) {
            return refuseFar(NOBODY);
        }
        return tally.countAlike(shelf.row(word), laws);
    }

    public int seen(int word, int a, int b, int i) {
        if (noWord(word) || noLetter(a) || noLetter(b)) {
            return refuse(NOBODY);
        }
        if (i < 0) {
            return refuse(BELOW);
        }
        draft.clear();
        draft.appendOnly(shelf.row(word), 1 << a | 1 << b);
        return draft.get(i);
    }

    public int spread(int word, int a, int n, int what) {
        if (noWord(word) || noLetter(a)) {
            return refuse(NOBODY);
        }
        if (n < 0) {
            return refuse(BELOW);
        }
        if (noSuch(what)) {
            return refuse(OTHER);
        }
        Row row = shelf.row(word);
        int place = row.placeOfTime(a, n);
        if (place < 0) {
            return NONE;
        }
        if (what == 0) {
            return laws.howManyTied(row, place, -1);
        }
        return row.size() - 1 - laws.howManyTied(row, place, 1);
    }

    public long odds(int word, int part) {
        if (noWord(word)) {
            return refuseFar(NOBODY);
        }
        if (noSuch(part)) {
            return refuseFar(OTHER);
        }
        int ready = laws.readyLetters(shelf.row(word));
        int all = Integer.bitCount(ready);
        int low = laws.howManyLow(ready);
        if (low == 0) {
            return part;
        }
        int shared = commonDivisor(low, all);
        return part == 0 ? low / shared : all / shared;
    }

    // ---- beginnings, products, roots

    public int begins(int v, int u, int i) {
        if (noWord(v) || noWord(u)) {
            return refuse(NOBODY);
        }
        if (i < WHOLE) {
            return refuse(BELOW);
        }
        boolean does = bench.takeBeginning(shelf.row(v), shelf.row(u), draft);
        if (i == WHOLE) {
            return answer(does);
        }
        return does ? draft.get(i) : NONE;
    }

    public int common(int u, int v, int i) {
        if (noWord(u) || noWord(v)) {
            return refuse(NOBODY);
        }
        if (i < WHOLE) {
            return refuse(BELOW);
        }
        bench.takeCommon(shelf.row(u), shelf.row(v), draft);
        return sizeOrCell(draft, i);
    }

    public int product(int u, int v) {
        if (noWord(u) || noWord(v)) {
            return refuse(NOBODY);
        }
        draft.copy(shelf.row(u));
        draft.append(shelf.row(v));
        if (draft.size() > LONGEST || shelf.isFull()) {
            return refuse(ROOM);
        }
        return shelf.place(draft);
    }

    public int power(int u, int n) {
        if (noWord(u)) {
            return refuse(NOBODY);
        }
        if (n < 0) {
            return refuse(BELOW);
        }
        Row row = shelf.row(u);
        if ((long) row.size() * n > LONGEST || shelf.isFull()) {
            return refuse(ROOM);
        }
        draft.clear();
        draft.appendTimes(row, n);
        return shelf.place(draft);
    }

    public int changes(int u, int v) {
        if (noWord(u) || noWord(v)) {
            return refuse(NOBODY);
        }
        draft.copy(shelf.row(u));
        draft.append(shelf.row(v));
        second.copy(shelf.row(v));
        second.append(shelf.row(u));
        return answer(bench.sameKind(draft, second));
    }

    public int root(int word, int i) {
        if (noWord(word)) {
            return refuse(NOBODY);
        }
        if (i < WHOLE) {
            return refuse(BELOW);
        }
        Row row = shelf.row(word);
        if (row.size() == 0) {
            return refuse(STATE);
        }
        int times = bench.takeRoot(row, draft);
        return i == WHOLE ? times : draft.get(i);
    }

    public int parts(int word, int a) {
        if (noWord(word) || a < WHOLE || a >= KINDS) {
            return refuse(NOBODY);
        }
        int standing = shelf.row(word).letters();
        return a == WHOLE ? laws.howManyParts(standing) : laws.partOf(a, standing);
    }

    // ---- turned, counted

    public int turned(int word) {
        if (noWord(word)) {
            return refuse(NOBODY);
        }
        if (tooLongToTurn(word)) {
            return refuse(ROOM);
        }
        turner.explore(shelf.row(word));
        return turner.found();
    }

    public int turn(int word, int k, int i) {
        if (noWord(word)) {
            return refuse(NOBODY);
        }
        if (k < 0 || i < 0) {
            return refuse(BELOW);
        }
        if (tooLongToTurn(word)) {
            return refuse(ROOM);
        }
        turner.explore(shelf.row(word));
        return turner.letterOf(k, i);
    }

    public int apart(int u, int v) {
        if (noWord(u) || noWord(v)) {
            return refuse(NOBODY);
        }
        if (tooLongToTurn(u) || tooLongToTurn(v)) {
            return refuse(ROOM);
        }
        turner.explore(shelf.row(u));
        return turner.movesTo(shelf.row(v));
    }

    public long unlike(int n, int m) {
        if (n < 0 || m < 1) {
            return refuseFar(BELOW);
        }
        if (n > LONGEST_COUNTED || m > KINDS) {
            return refuseFar(ROOM);
        }
        return tally.countUnlike(n, m, laws);
    }

    public int free() {
        return laws.howManyFree();
    }

    public int lots(int word, int n, int z, int what) {
        if (noWord(word)) {
            return refuse(NOBODY);
        }
        if (n < 1) {
            return refuse(BELOW);
        }
        if (n > MOST_LOTS) {
            return refuse(ROOM);
        }
        if (noSuch(what)) {
            return refuse(OTHER);
        }
        Row row = shelf.row(word);
        if (row.size() < 2) {
            return refuse(STATE);
        }
        draft.copy(row);
        int times = laws.drawLots(draft, n, z);
        return what == 0 ? times : draft.howManyOther(row);
    }

    // ---- lists of numbers

    public int list(int list, int n) {
        if (noList(list)) {
            return refuse(NOBODY);
        }
        if (n > LONGEST_LIST) {
            return refuse(ROOM);
        }
        if (n < 0) {
            return NO_SIZE;
        }
        numbers.begin(list, n);
        return 1;
    }

    public int put(int list, int i, int v) {
        if (noList(list)) {
            return refuse(NOBODY);
        }
        if (numbers.lacks(list)) {
            return MISSING;
        }
        Row row = numbers.row(list);
        if (!row.has(i, 1)) {
            return NO_PLACE;
        }
        row.set(i, v);
        return 1;
    }

    public long look(int list, int i) {
        if (noList(list)) {
            return refuseFar(NOBODY);
        }
        if (numbers.lacks(list)) {
            return FAR - MISSING;
        }
        Row row = numbers.row(list);
        if (!row.has(i, 1)) {
            return FAR - NO_PLACE;
        }
        return row.get(i);
    }

    public int from(int list, int i, int n) {
        if (noList(list)) {
            return refuse(NOBODY);
        }
        if (n < 0) {
            return refuse(BELOW);
        }
        if (n > LONGEST || shelf.isFull()) {
            return refuse(ROOM);
        }
        if (numbers.lacks(list)) {
            return MISSING;
        }
        Row row = numbers.row(list);
        if (!row.has(i, n)) {
            return NO_PLACE;
        }
        draft.clear();
        draft.appendPiece(row, i, n);
        if (!draft.isWord()) {
            return refuse(STATE);
        }
        return shelf.place(draft);
    }

    public int lays(int list, int i, int word) {
        if (noList(list) || noWord(word)) {
            return refuse(NOBODY);
        }
        if (numbers.lacks(list)) {
            return MISSING;
        }
        Row row = numbers.row(list);
        Row told = shelf.row(word);
        if (!row.has(i, told.size())) {
            return NO_PLACE;
        }
        bench.arrange(told, false, draft);
        row.overwrite(i, draft);
        return draft.size();
    }

    public int judge(int list, int word) {
        if (noList(list) || noWord(word)) {
            return refuse(NOBODY);
        }
        if (numbers.lacks(list)) {
            return MISSING;
        }
        return numbers.row(list).firstOther(shelf.row(word));
    }

    // ---- the image

    public int undo() {
        if (history.size() == 0) {
            return refuse(STATE);
        }
        history.takeBack(laws);
        return history.size();
    }

    public int image() {
        keptLaws.copy(laws);
        keptShelf.copy(shelf);
        kept = true;
        return shelf.size();
    }

    public int on() {
        if (!kept) {
            return refuse(STATE);
        }
        laws.copy(keptLaws);
        shelf.copy(keptShelf);
        history.clear();
        return shelf.size();
    }

    public int count(int what) {
        if (what >= FIRST_REFUSAL && what <= LAST_REFUSAL) {
            return refused[what - FIRST_REFUSAL];
        }
        switch (what) {
            case 0:
                return shelf.size();
            case 1:
                return typed.size();
            case 2:
                return shelf.allLetters();
            case 3:
                return laws.howManyPairs();
            case 4:
                return history.size();
            default:
                return NONE;
        }
    }

    // ---- what the calls share

    private int refuse(int refusal) {
        int kind = -refusal - 1;
        if (kind >= 0 && kind < refused.length) {
            refused[kind]++;
        }
        return refusal;
    }

    private long refuseFar(int refusal) {
        return FAR - refuse(refusal);
    }

    private boolean noWord(int number) {
        return number < 0 || number >= shelf.size();
    }

    private boolean tooLongToTurn(int number) {
        return shelf.row(number).size() > LONGEST_TURNED;
    }

    private static boolean noLetter(int a) {
        return a < 0 || a >= KINDS;
    }

    private static boolean notTwoLetters(int a, int b) {
        return noLetter(a) || noLetter(b) || a == b;
    }

    private static boolean noList(int number) {
        return number < 0 || number >= LISTS;
    }

    private static boolean noSuch(int what) {
        return what != 0 && what != 1;
    }

    private static int answer(boolean holds) {
        return holds ? 1 : 0;
    }

    private static int sizeOrCell(Row row, int i) {
        return i == WHOLE ? row.size() : row.get(i);
    }

    /** Of two numbers from 1 on, the greatest that divides both. */
    private static int commonDivisor(int one, int other) {
        int divisor = 1;
        for (int d = 2; d <= one && d <= other; d++) {
            if (one % d == 0 && other % d == 0) {
                divisor = d;
            }
        }
        return divisor;
    }

    /** Numbers in a row, up to a room that never changes: a WORD, a LIST, the letters. */
    private static final class Row {
        private final int[] cells;
        private int used = 0;

        Row(int room) {
            cells = new int[Math.max(room, 0)];
        }

        int size() {
            return used;
        }

        int get(int i) {
            return i >= 0 && i < used ? cells[i] : NONE;
        }

        void set(int i, int v) {
            if (i >= 0 && i < used) {
                cells[i] = v;
            }
        }

        /** Of no places none lacks, wherever they would begin. */
        boolean has(int i, int n) {
            return n == 0 || i >= 0 && n > 0 && (long) i + n <= used;
        }

        void clear() {
            used = 0;
        }

        void shorten(int n) {
            if (n >= 0 && n < used) {
                used = n;
            }
        }

        /** Beyond the room nothing is added: who must know it looks at the size. */
        void add(int v) {
            if (used < cells.length) {
                cells[used] = v;
                used++;
            }
        }

        /** Those from the place on go one further; without room for all nothing is put in. */
        void insert(int i, int v) {
            if (i < 0 || i > used || used >= cells.length) {
                return;
            }
            for (int k = used; k > i; k--) {
                cells[k] = cells[k - 1];
            }
            cells[i] = v;
            used++;
        }

        void addTimes(int v, int n) {
            int most = Math.min(n, cells.length);
            for (int k = 0; k < most; k++) {
                add(v);
            }
        }

        void append(Row other) {
            appendPiece(other, 0, other.used);
        }

        void appendPiece(Row other, int from, int n) {
            if (!other.has(from, n)) {
                return;
            }
            int fit = Math.min(n, cells.length - used);
            for (int k = 0; k < fit; k++) {
                cells[used + k] = other.cells[from + k];
            }
            used += fit;
        }

        /** An empty row may be told any number of times, so the room bounds the turns. */
        void appendTimes(Row other, int n) {
            int turns = Math.min(n, cells.length);
            for (int k = 0; k < turns; k++) {
                append(other);
            }
        }

        void appendOnly(Row other, int letters) {
            for (int k = 0; k < other.used; k++) {
                int v = other.get(k);
                if ((letters >> v & 1) == 1) {
                    add(v);
                }
            }
        }

        void copy(Row other) {
            clear();
            appendPiece(other, 0, other.used);
        }

        void overwrite(int from, Row other) {
            for (int k = 0; k < other.used; k++) {
                set(from + k, other.get(k));
            }
        }

        void swapWithNext(int i) {
            int v = get(i);
            set(i, get(i + 1));
            set(i + 1, v);
        }

        void removeFirst(int v) {
            int place = placeOfTime(v, 0);
            if (place < 0) {
                return;
            }
            for (int k = place + 1; k < used; k++) {
                cells[k - 1] = cells[k];
            }
            used--;
        }

        int placeOfTime(int v, int n) {
            int times = 0;
            for (int k = 0; k < used; k++) {
                if (cells[k] == v) {
                    if (times == n) {
                        return k;
                    }
                    times++;
                }
            }
            return NONE;
        }

        int timesOf(int v) {
            int times = 0;
            for (int k = 0; k < used; k++) {
                if (cells[k] == v) {
                    times++;
                }
            }
            return times;
        }

        int letters() {
            int bits = 0;
            for (int k = 0; k < used; k++) {
                bits |= 1 << cells[k];
            }
            return bits;
        }

        boolean isWord() {
            for (int k = 0; k < used; k++) {
                if (noLetter(cells[k])) {
                    return false;
                }
            }
            return true;
        }

        boolean same(Row other) {
            return used == other.used && firstOther(other) == NONE;
        }

        int firstOther(Row other) {
            for (int k = 0; k < used; k++) {
                if (k >= other.used || cells[k] != other.get(k)) {
                    return k;
                }
            }
            return NONE;
        }

        int howManyOther(Row other) {
            int places = 0;
            for (int k = 0; k < used; k++) {
                if (cells[k] != other.get(k)) {
                    places++;
                }
            }
            return places;
        }
    }

    /** Which LETTERS PASS, and THE ORDER; what follows from these alone. */
    private static final class Laws {
        private final int[] passing = new int[KINDS];
        private final int[] rank = new int[KINDS];

        Laws() {
            for (int a = 0; a < KINDS; a++) {
                rank[a] = a;
            }
        }

        int passedBy(int a) {
            return noLetter(a) ? 0 : passing[a];
        }

        int rankOf(int a) {
            return noLetter(a) ? NONE : rank[a];
        }

        boolean letPass(int a, int b) {
            return (passedBy(a) >> b & 1) == 1;
        }

        void flip(int a, int b) {
            if (notTwoLetters(a, b)) {
                return;
            }
            passing[a] ^= 1 << b;
            passing[b] ^= 1 << a;
        }

        void swapRanks(int a, int b) {
            if (notTwoLetters(a, b)) {
                return;
            }
            int first = rank[a];
            rank[a] = rank[b];
            rank[b] = first;
        }

        void copy(Laws other) {
            for (int a = 0; a < KINDS; a++) {
                passing[a] = other.passing[a];
                rank[a] = other.rank[a];
            }
        }

        boolean same(Laws other) {
            for (int a = 0; a < KINDS; a++) {
                if (passing[a] != other.passing[a] || rank[a] != other.rank[a]) {
                    return false;
                }
            }
            return true;
        }

        int howManyPairs() {
            int ends = 0;
            for (int a = 0; a < KINDS; a++) {
                ends += Integer.bitCount(passing[a]);
            }
            return ends / 2;
        }

        /** A LETTER doesn't PASS itself, so only its first place can be READY: bits tell all. */
        int readyLetters(Row row) {
            int ahead = 0;
            int ready = 0;
            for (int k = 0; k < row.size(); k++) {
                int a = row.get(k);
                if ((ahead & ~passedBy(a)) == 0) {
                    ready |= 1 << a;
                }
                ahead |= 1 << a;
            }
            return ready;
        }

        int howManyLow(int letters) {
            int low = 0;
            for (int a = 0; a < KINDS; a++) {
                if ((letters >> a & 1) == 1 && rank[a] < LOW_RANKS) {
                    low++;
                }
            }
            return low;
        }

        /** How many must stay on that side of a place: ahead of it (step -1), behind it (1). */
        int howManyTied(Row row, int place, int step) {
            int tied = 1 << row.get(place);
            int many = 0;
            for (int k = place + step; step != 0 && k >= 0 && k < row.size(); k += step) {
                int letter = row.get(k);
                if ((tied & ~passedBy(letter)) != 0) {
                    tied |= 1 << letter;
                    many++;
                }
            }
            return many;
        }

        int partOf(int letter, int standing) {
            int part = standing & 1 << letter;
            for (int turn = 0; turn < KINDS; turn++) {
                for (int a = 0; a < KINDS; a++) {
                    if ((part >> a & 1) == 1) {
                        part |= standing & ~passing[a];
                    }
                }
            }
            return part;
        }

        int howManyParts(int standing) {
            int left = standing;
            int many = 0;
            for (int a = 0; a < KINDS; a++) {
                if ((left >> a & 1) == 1) {
                    left &= ~partOf(a, standing);
                    many++;
                }
            }
            return many;
        }

        boolean isFree(int set) {
            for (int a = 0; a < KINDS; a++) {
                int others = set & ~(1 << a);
                if ((set >> a & 1) == 1 && (others & ~passing[a]) != 0) {
                    return false;
                }
            }
            return true;
        }

        int howManyFree() {
            int many = 0;
            for (int set = 0; set < 1 << KINDS; set++) {
                if (isFree(set)) {
                    many++;
                }
            }
            return many;
        }

        /** Changes the row, which has two LETTERS at least, and tells how often. */
        int drawLots(Row row, int n, int seed) {
            int below = row.size() - 1;
            if (below < 1) {
                return 0;
            }
            int z = seed;
            int times = 0;
            for (int k = 0; k < n; k++) {
                z = z * 1664525 + 1013904223;
                int place = (z & ALL_BUT_SIGN) / 256 % below;
                if (letPass(row.get(place), row.get(place + 1))) {
                    row.swapWithNext(place);
                    times++;
                }
            }
            return times;
        }
    }

    /** The WORDS by their numbers. */
    private static final class Shelf {
        private final Row[] rows = new Row[MOST_WORDS];
        private final Row nothing = new Row(0);
        private int used = 0;

        Shelf() {
            for (int k = 0; k < MOST_WORDS; k++) {
                rows[k] = new Row(LONGEST);
            }
        }

        int size() {
            return used;
        }

        boolean isFull() {
            return used >= MOST_WORDS;
        }

        Row row(int number) {
            return number >= 0 && number < used ? rows[number] : nothing;
        }

        int place(Row told) {
            if (isFull()) {
                return NONE;
            }
            rows[used].copy(told);
            used++;
            return used - 1;
        }

        void removeLast() {
            if (used > 0) {
                used--;
            }
        }

        void copy(Shelf other) {
            used = other.used;
            for (int k = 0; k < used; k++) {
                rows[k].copy(other.rows[k]);
            }
        }

        int allLetters() {
            int many = 0;
            for (int k = 0; k < used; k++) {
                many += rows[k].size();
            }
            return many;
        }
    }

    /** The Laws as they were ahead of the latest changes; the oldest place is written again. */
    private static final class History {
        private final Laws[] earlier = new Laws[MOST_UNDONE];
        private int used = 0;
        private int next = 0;

        History() {
            for (int k = 0; k < MOST_UNDONE; k++) {
                earlier[k] = new Laws();
            }
        }

        int size() {
            return used;
        }

        void clear() {
            used = 0;
        }

        void remember(Laws laws) {
            earlier[next].copy(laws);
            next = (next + 1) % MOST_UNDONE;
            used = Math.min(used + 1, MOST_UNDONE);
        }

        void takeBack(Laws laws) {
            if (used == 0) {
                return;
            }
            next = (next + MOST_UNDONE - 1) % MOST_UNDONE;
            used--;
            laws.copy(earlier[next]);
        }
    }

    /** The LISTS. */
    private static final class Numbers {
        private final Row[] rows = new Row[LISTS];
        private final boolean[] begun = new boolean[LISTS];
        private final Row nothing = new Row(0);

        Numbers() {
            for (int k = 0; k < LISTS; k++) {
                rows[k] = new Row(LONGEST_LIST);
            }
        }

        boolean lacks(int number) {
            return noList(number) || !begun[number];
        }

        Row row(int number) {
            return noList(number) ? nothing : rows[number];
        }

        void begin(int number, int n) {
            if (noList(number)) {
                return;
            }
            begun[number] = true;
            rows[number].clear();
            rows[number].addTimes(0, n);
        }
    }

    /** Reads the letters as a WORD or as RULES. */
    private static final class Parser {
        private static final int RULE_BEGINS = 0;
        private static final int FIRST_LACKS = 1;
        private static final int SECOND_LACKS = 2;
        private static final int RULE_STANDS = 3;

        /** One place more than a WORD has: a full row tells "too many", and ()0 may still cut it. */
        private final Row told = new Row(LONGEST + 1);
        private final int[] opened = new int[MOST_OPEN];
        private int open = 0;
        private int itemStart = NONE;

        Row told() {
            return told;
        }

        /** 0, or the FAULT of kind 1. */
        int readWord(Row typed) {
            told.clear();
            open = 0;
            itemStart = NONE;
            for (int k = 0; k < typed.size(); k++) {
                if (!takeSign(typed.get(k))) {
                    return MISREAD - k;
                }
            }
            return open > 0 ? MISREAD - typed.size() : 0;
        }

        private boolean takeSign(int sign) {
            if (isLetter(sign)) {
                itemStart = told.size();
                told.add(sign - 'a');
                return true;
            }
            if (sign >= '0' && sign <= '9') {
                return takeTimes(sign - '0');
            }
            if (sign == '(') {
                return takeOpening();
            }
            return sign == ')' && takeClosing();
        }

        private boolean takeOpening() {
            if (open >= MOST_OPEN) {
                return false;
            }
            opened[open] = told.size();
            open++;
            itemStart = NONE;
            return true;
        }

        private boolean takeClosing() {
            if (open == 0) {
                return false;
            }
            open--;
            itemStart = opened[open];
            return true;
        }

        private boolean takeTimes(int times) {
            if (itemStart == NONE) {
                return false;
            }
            int length = told.size() - itemStart;
            if (times == 0) {
                told.shorten(itemStart);
            }
            for (int k = 1; k < times; k++) {
                told.appendPiece(told, itemStart, length);
            }
            itemStart = NONE;
            return true;
        }

        /** How many RULES were done to the laws, or the FAULT: the laws are of no use then. */
        int readRules(Row typed, Laws laws) {
            int state = RULE_BEGINS;
            boolean ofRanks = false;
            int first = NONE;
            int done = 0;
            for (int k = 0; k < typed.size(); k++) {
                int sign = typed.get(k);
                int letter = isLetter(sign) ? sign - 'a' : NONE;
                if (state == RULE_BEGINS && sign == '<') {
                    ofRanks = true;
                    state = FIRST_LACKS;
                } else if (state <= FIRST_LACKS && letter != NONE) {
                    first = letter;
                    state = SECOND_LACKS;
                } else if (state == SECOND_LACKS && letter != NONE && letter != first) {
                    change(laws, ofRanks, first, letter);
                    done++;
                    state = RULE_STANDS;
                } else if (state == RULE_STANDS && sign == ',') {
                    ofRanks = false;
                    state = RULE_BEGINS;
                } else {
                    return MISREAD - k;
                }
            }
            return state == RULE_STANDS ? done : MISREAD - typed.size();
        }

        private static void change(Laws laws, boolean ofRanks, int a, int b) {
            if (ofRanks) {
                laws.swapRanks(a, b);
            } else {
                laws.flip(a, b);
            }
        }

        private static boolean isLetter(int sign) {
            return sign >= 'a' && sign < 'a' + KINDS;
        }
    }

    /** What is made of WORDS by taking READY places away. */
    private static final class Bench {
        private final Laws laws;
        private final Row rest = new Row(LONGEST_PAIR);
        private final Row left = new Row(LONGEST_PAIR);
        private final Row right = new Row(LONGEST_PAIR);

        Bench(Laws laws) {
            this.laws = laws;
        }

        /** The LEAST WORD or the LAST WORD of a row; out may be that row itself. */
        void arrange(Row row, boolean last, Row out) {
            rest.copy(row);
            out.clear();
            for (int k = 0; k < rest.size(); k++) {
                int letter = rest.get(k);
                out.insert(turnToBeTaken(out, letter, last), letter);
            }
        }

        /**
         * A LETTER put behind a WORD leaves its TAKING as it is until all that the LETTER doesn't PASS are taken;
         * from there on it is READY, and taken as soon as its RANK goes ahead of the next one's.
         */
        private int turnToBeTaken(Row arranged, int letter, boolean last) {
            int place = arranged.size();
            for (int k = arranged.size() - 1; k >= 0 && laws.letPass(letter, arranged.get(k)); k--) {
                boolean above = laws.rankOf(letter) > laws.rankOf(arranged.get(k));
                if (above == last) {
                    place = k;
                }
            }
            return place;
        }

        /** ALIKE: two are, just if their LEAST WORDS are the same. */
        boolean sameKind(Row one, Row other) {
            if (one.size() != other.size()) {
                return false;
            }
            arrange(one, false, left);
            arrange(other, false, right);
            return left.same(right);
        }

        void layBlocks(Row row, Row out) {
            rest.copy(row);
            out.clear();
            for (int k = row.size(); k > 0 && rest.size() > 0; k--) {
                int block = laws.readyLetters(rest);
                for (int a = 0; a < KINDS; a++) {
                    if ((block >> a & 1) == 1) {
                        rest.removeFirst(a);
                    }
                }
                out.add(block);
            }
        }

        /** Whether whole BEGINS with beginning; out is the REST then. */
        boolean takeBeginning(Row whole, Row beginning, Row out) {
            out.copy(whole);
            for (int k = 0; k < beginning.size(); k++) {
                int letter = beginning.get(k);
                if ((laws.readyLetters(out) >> letter & 1) == 0) {
                    return false;
                }
                out.removeFirst(letter);
            }
            arrange(out, false, out);
            return true;
        }

        /** A LETTER that is READY in both is in COMMON, whichever is taken first. */
        void takeCommon(Row one, Row other, Row out) {
            left.copy(one);
            right.copy(other);
            out.clear();
            for (int k = one.size(); k > 0; k--) {
                int both = laws.readyLetters(left) & laws.readyLetters(right);
                if (both == 0) {
                    break;
                }
                int letter = Integer.numberOfTrailingZeros(both);
                left.removeFirst(letter);
                right.removeFirst(letter);
                out.add(letter);
            }
            arrange(out, false, out);
        }

        /** The ROOT's k; out is the LEAST WORD of its r. */
        int takeRoot(Row row, Row out) {
            int times = 1;
            for (int k = row.size(); k > 1; k--) {
                if (isPower(row, k, out)) {
                    times = k;
                    break;
                }
            }
            takeShare(row, times, out);
            arrange(out, false, out);
            return times;
        }

        private boolean isPower(Row row, int k, Row share) {
            if (k < 1) {
                return false;
            }
            for (int a = 0; a < KINDS; a++) {
                if (row.timesOf(a) % k != 0) {
                    return false;
                }
            }
            takeShare(row, k, share);
            left.clear();
            left.appendTimes(share, k);
            arrange(left, false, left);
            arrange(row, false, right);
            return left.same(right);
        }

        /** If a row is ALIKE some r, k times, r has the first k-th part of each LETTER's places. */
        private static void takeShare(Row row, int k, Row share) {
            share.clear();
            if (k < 1) {
                return;
            }
            for (int place = 0; place < row.size(); place++) {
                int letter = row.get(place);
                if (share.timesOf(letter) < row.timesOf(letter) / k) {
                    share.add(letter);
                }
            }
        }
    }

    /** Counts WORDS. */
    private static final class Tally {
        /** 14 LETTERS of six kinds can be taken up to (4 x 4 x 3 x 3 x 3 x 3) points at most. */
        private static final int MOST_POINTS = 1296;

        private final long[] ways = new long[MOST_POINTS];
        private final int[] taken = new int[MOST_POINTS];
        private final int[] step = new int[KINDS];
        private final int[] places = new int[KINDS];
        private final int[] behind = new int[LONGEST];
        private final int[] sets = new int[KINDS + 1];
        private final long[] totals = new long[LONGEST_COUNTED + 1];

        /** COPIES: a point tells how often each LETTER is taken; its ways are summed up in order. */
        long countAlike(Row row, Laws laws) {
            if (row.size() > LONGEST) {
                return 0;
            }
            int points = prepare(row, laws);
            if (points < 1 || points > MOST_POINTS) {
                return 0;
            }
            for (int p = 0; p < points; p++) {
                ways[p] = 0;
            }
            ways[0] = 1;
            taken[0] = 0;
            for (int p = 0; p < points; p++) {
                if (ways[p] > 0) {
                    goOn(p, points);
                }
            }
            return ways[points - 1];
        }

        private int prepare(Row row, Laws laws) {
            for (int a = 0; a < KINDS; a++) {
                places[a] = 0;
            }
            for (int k = 0; k < row.size() && k < LONGEST; k++) {
                int letter = row.get(k);
                behind[k] = 0;
                for (int a = 0; a < KINDS; a++) {
                    if (!laws.letPass(letter, a)) {
                        behind[k] |= places[a];
                    }
                }
                if (!noLetter(letter)) {
                    places[letter] |= 1 << k;
                }
            }
            int points = 1;
            for (int a = 0; a < KINDS; a++) {
                step[a] = points;
                points *= Integer.bitCount(places[a]) + 1;
            }
            return points;
        }

        private void goOn(int p, int points) {
            for (int a = 0; a < KINDS; a++) {
                int open = places[a] & ~taken[p];
                int place = Integer.numberOfTrailingZeros(open);
                if (place >= LONGEST || (behind[place] & ~taken[p]) != 0) {
                    continue;
                }
                int next = p + step[a];
                if (next < points) {
                    ways[next] += ways[p];
                    taken[next] = taken[p] | 1 << place;
                }
            }
        }

        /** UNLIKE: WORDS that begin with a set of LETTERS that all PASS are put in and left out in turn. */
        long countUnlike(int n, int m, Laws laws) {
            for (int k = 0; k <= KINDS; k++) {
                sets[k] = 0;
            }
            for (int set = 0; set < 1 << Math.min(m, KINDS); set++) {
                if (laws.isFree(set)) {
                    sets[Integer.bitCount(set)]++;
                }
            }
            totals[0] = 1;
            int last = Math.min(n, LONGEST_COUNTED);
            for (int length = 1; length <= last; length++) {
                long sum = 0;
                for (int k = 1; k <= KINDS && k <= length; k++) {
                    long part = sets[k] * totals[length - k];
                    sum += k % 2 == 1 ? part : -part;
                }
                totals[length] = sum;
            }
            return last >= 0 ? totals[last] : 0;
        }
    }

    /** The WORDS to which MOVES lead from one, each as a number: a 1, then three bits a LETTER. */
    private static final class Turner {
        /** 48 is the most that any WORD of 7 LETTERS leads to, whichever LETTERS PASS. */
        private static final int MOST_FOUND = 64;

        private final Laws laws;
        private final Bench bench;
        private final Laws explored = new Laws();
        private final Row current = new Row(LONGEST_TURNED);
        private final Row moved = new Row(LONGEST_TURNED);
        private final int[] codes = new int[MOST_FOUND];
        private final int[] moves = new int[MOST_FOUND];
        private final int[] sorted = new int[MOST_FOUND];
        private int found = 0;
        private int length = 0;

        Turner(Laws laws, Bench bench) {
            this.laws = laws;
            this.bench = bench;
        }

        int found() {
            return found;
        }

        /** What was explored last is kept, for one WORD is often asked for place by place. */
        void explore(Row row) {
            bench.arrange(row, false, current);
            int start = codeOf(current);
            if (found > 0 && codes[0] == start && explored.same(laws)) {
                return;
            }
            explored.copy(laws);
            length = current.size();
            found = 0;
            note(start, 0);
            for (int k = 0; k < found && k < MOST_FOUND; k++) {
                moveAll(k);
            }
            sortCodes();
        }

        private void moveAll(int k) {
            decode(codes[k]);
            int ready = laws.readyLetters(current);
            for (int a = 0; a < KINDS; a++) {
                if ((ready >> a & 1) == 1) {
                    moved.copy(current);
                    moved.removeFirst(a);
                    moved.add(a);
                    bench.arrange(moved, false, moved);
                    note(codeOf(moved), moves[k] + 1);
                }
            }
        }

        private void note(int code, int far) {
            if (find(code) < 0 && found < MOST_FOUND) {
                codes[found] = code;
                moves[found] = far;
                found++;
            }
        }

        private int find(int code) {
            for (int k = 0; k < found && k < MOST_FOUND; k++) {
                if (codes[k] == code) {
                    return k;
                }
            }
            return NONE;
        }

        /** All have the same length, so their numbers stand in the order of their LETTERS. */
        private void sortCodes() {
            for (int k = 0; k < found && k < MOST_FOUND; k++) {
                int code = codes[k];
                int place = k;
                while (place > 0 && sorted[place - 1] > code) {
                    sorted[place] = sorted[place - 1];
                    place--;
                }
                sorted[place] = code;
            }
        }

        int letterOf(int k, int i) {
            if (k < 0 || k >= found || k >= MOST_FOUND) {
                return NONE;
            }
            decode(sorted[k]);
            return current.get(i);
        }

        int movesTo(Row row) {
            bench.arrange(row, false, moved);
            int place = find(codeOf(moved));
            return place < 0 ? NONE : moves[place];
        }

        private static int codeOf(Row row) {
            int code = 1;
            for (int k = 0; k < row.size() && k < LONGEST_TURNED; k++) {
                code = code << 3 | row.get(k);
            }
            return code;
        }

        private void decode(int code) {
            current.clear();
            for (int k = length - 1; k >= 0; k--) {
                current.add(code >> 3 * k & 7);
            }
        }
    }
}
