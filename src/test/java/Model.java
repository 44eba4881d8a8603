import java.math.BigInteger;
import java.util.ArrayList;
import java.util.Arrays;
import java.util.List;

/**
 * What the document says, told once more by other means: everything counted by its definition, numbers without a limit,
 * texts by a stack of their own. It is slow and simple, and shares nothing with the program.
 */
final class Model {
    static final int NONE = -1, BAD = -2, STATE = -3, FULL = -4, NOT = -5, OVER = -9, MISSING = -11, PLACE = -13, BELOW = -14;
    static final long VOID = Long.MIN_VALUE;
    private static final BigInteger LEAST = BigInteger.valueOf(Long.MIN_VALUE), MOST = BigInteger.valueOf(Long.MAX_VALUE);

    /** Thrown where a number is no long; holds its trouble. */
    private static final class Over extends RuntimeException {
        private static final long serialVersionUID = 1;
        final int[] trouble;

        Over(int sort, int number) {
            super(null, null, false, false);
            trouble = new int[] {sort, number};
        }
    }

    private int p = 13, e = 3, g = 2;
    private BigInteger[][] shelves = zeros(3);
    private List<int[]> why = new ArrayList<>();
    private StringBuilder tape = new StringBuilder();
    private final long[][] lists = new long[3][];
    private int[] image;
    private BigInteger[][] imageShelves;
    private int[][][] timesNumbers;
    /** Kept only to be quick, and the prime that they are of. */
    private final int[][] powers = new int[61][61];
    private int powersOf;

    private static BigInteger[][] zeros(int e) {
        BigInteger[][] rows = new BigInteger[4][e];
        for (BigInteger[] row : rows) Arrays.fill(row, BigInteger.ZERO);
        return rows;
    }

    // ---- the prime, classes

    long field(int newP, int newE) {
        if (newP < 3 || newP > 61 || !BigInteger.valueOf(newP).isProbablePrime(50)) return BAD;
        if (newE < 1 || newE > 12 || (newP - 1) % newE != 0) return STATE;
        long before = p;
        p = newP;
        e = newE;
        g = generators().get(0);
        shelves = zeros(e);
        timesNumbers = null;
        return before;
    }

    private List<Integer> generators() {
        List<Integer> all = new ArrayList<>();
        for (int x = 1; x < p; x++) {
            boolean[] reached = new boolean[p];
            int many = 0;
            for (int k = 0; k < p - 1; k++) {
                int y = toThe(x, k);
                if (!reached[y]) many++;
                reached[y] = true;
            }
            if (many == p - 1) all.add(x);
        }
        return all;
    }

    private int toThe(int x, int k) {
        if (powersOf != p) {
            powersOf = p;
            for (int y = 0; y < p; y++) {
                for (int n = 0; n < 61; n++) powers[y][n] = BigInteger.valueOf(y).modPow(BigInteger.valueOf(n), BigInteger.valueOf(p)).intValue();
            }
        }
        return powers[x][k];
    }

    private int logOf(int x) {
        for (int k = 0; k < p - 1; k++) if (toThe(g, k) == x) return k;
        throw new IllegalStateException();
    }

    /** How often each is met as a sum of one of class i and one of class j. */
    private int[] sumsMet(int i, int j) {
        int[] met = new int[p];
        for (int x : members(i)) for (int y : members(j)) met[(x + y) % p]++;
        return met;
    }

    private List<Integer> members(int i) {
        List<Integer> all = new ArrayList<>();
        for (int k = i; k < p - 1; k += e) all.add(toThe(g, k));
        all.sort(null);
        return all;
    }

    long told(int what) {
        if (what < 0 || what > 4) return NONE;
        return new int[] {p, e, (p - 1) / e, g, generators().size()}[what];
    }

    long generator(int i) {
        List<Integer> all = generators();
        return i >= 0 && i < all.size() ? all.get(i) : NONE;
    }

    long use(int newG) {
        if (!generators().contains(newG)) return BAD;
        int before = g;
        g = newG;
        timesNumbers = null;
        return before;
    }

    long power(int x) {
        return x < 1 || x >= p ? NONE : logOf(x);
    }

    long classOf(int x) {
        return x < 1 || x >= p ? NONE : logOf(x) % e;
    }

    private boolean noClass(int i) {
        return i < 0 || i >= e;
    }

    long member(int i, int k) {
        return noClass(i) || k < 0 || k >= (p - 1) / e ? NONE : members(i).get(k);
    }

    long beside(int i, int j) {
        if (noClass(i) || noClass(j)) return NONE;
        int many = 0;
        for (int x : members(i)) if (members(j).contains(x + 1)) many++;
        return many;
    }

    long meets(int i, int j, int h) {
        if (noClass(i) || noClass(j) || noClass(h)) return NONE;
        int[] met = sumsMet(i, j);
        int many = met[members(h).get(0)];
        for (int z : members(h)) if (met[z] != many) throw new IllegalStateException();
        return many;
    }

    long times(int i, int j, int h) {
        if (noClass(i) || noClass(j) || noClass(h)) return NONE;
        return 1000 + meets(i, j, h) - (opposite(i) == j ? (p - 1) / e : 0);
    }

    private int timesNumber(int i, int j, int h) {
        if (timesNumbers == null) {
            timesNumbers = new int[e][e][e];
            for (int a = 0; a < e; a++) for (int b = 0; b < e; b++) for (int c = 0; c < e; c++) timesNumbers[a][b][c] = (int) times(a, b, c) - 1000;
        }
        return timesNumbers[i][j][h];
    }

    long opposite(int i) {
        return noClass(i) ? NONE : logOf(p - members(i).get(0)) % e;
    }

    long around(int i, int what) {
        if (noClass(i) || what < 0 || what > 1) return NONE;
        long all = 0;
        for (int j = 0; j < e; j++) all += what == 0 ? beside(i, j) : beside(j, i);
        return all;
    }

    long solved(int a, int b, int c) {
        for (int x : new int[] {a, b, c}) if (x < 0 || x >= p) return NONE;
        long many = 0;
        for (int x = 0; x < p; x++) for (int y = 0; y < p; y++) if ((a * toThe(x, e) + b * toThe(y, e)) % p == c) many++;
        return many;
    }

    // ---- the polynomial, by sums of powers of a P-th root of one that are added and multiplied as such

    private BigInteger[] periodInPowers(int i) {
        BigInteger[] row = new BigInteger[p];
        Arrays.fill(row, BigInteger.ZERO);
        for (int x : members(i)) row[x] = BigInteger.ONE;
        return row;
    }

    private BigInteger[] multiplied(BigInteger[] a, BigInteger[] b) {
        BigInteger[] row = new BigInteger[p];
        Arrays.fill(row, BigInteger.ZERO);
        for (int i = 0; i < p; i++) {
            if (a[i].signum() == 0) continue;
            for (int j = 0; j < p; j++) row[(i + j) % p] = row[(i + j) % p].add(a[i].multiply(b[j]));
        }
        return row;
    }

    BigInteger[] polynomial() {
        BigInteger[][] rows = new BigInteger[e + 1][p];
        for (BigInteger[] row : rows) Arrays.fill(row, BigInteger.ZERO);
        rows[0][0] = BigInteger.ONE;
        for (int t = 0; t < e; t++) {
            BigInteger[][] next = new BigInteger[e + 1][p];
            for (int k = 0; k <= e; k++) {
                BigInteger[] less = multiplied(rows[k], periodInPowers(t));
                for (int i = 0; i < p; i++) next[k][i] = (k == 0 ? BigInteger.ZERO : rows[k - 1][i]).subtract(less[i]);
            }
            rows = next;
        }
        BigInteger[] whole = new BigInteger[e + 1];
        for (int k = 0; k <= e; k++) {
            // All powers but the 0-th, once each, are -1 together.
            for (int i = 2; i < p; i++) if (!rows[k][i].equals(rows[k][1])) throw new IllegalStateException();
            whole[k] = rows[k][0].subtract(rows[k][1]);
        }
        return whole;
    }

    long polynomial(int k) {
        return k < 0 || k > e ? VOID : polynomial()[k].longValueExact();
    }

    long roots(int q) {
        if (q < 2 || q > 97) return BAD;
        BigInteger[] row = polynomial();
        long many = 0;
        for (int x = 0; x < q; x++) {
            BigInteger value = BigInteger.ZERO;
            for (int k = 0; k <= e; k++) value = value.add(row[k].multiply(BigInteger.valueOf(x).pow(k)));
            if (value.mod(BigInteger.valueOf(q)).signum() == 0) many++;
        }
        return many;
    }

    // ---- numbers

    private static boolean noShelf(int shelf) {
        return shelf < 0 || shelf > 3;
    }

    private BigInteger[] whole(long n) {
        BigInteger[] row = new BigInteger[e];
        Arrays.fill(row, BigInteger.valueOf(n).negate());
        return row;
    }

    private static BigInteger fit(BigInteger value, int sort, int number) {
        if (value.compareTo(LEAST) < 0 || value.compareTo(MOST) > 0) throw new Over(sort, number);
        return value;
    }

    private BigInteger[] sum(BigInteger[] a, BigInteger[] b, int sign) {
        BigInteger[] row = new BigInteger[e];
        for (int h = 0; h < e; h++) row[h] = fit(a[h].add(b[h].multiply(BigInteger.valueOf(sign))), 4, h);
        return row;
    }

    private BigInteger[] product(BigInteger[] a, BigInteger[] b) {
        BigInteger[] row = new BigInteger[e];
        for (int h = 0; h < e; h++) {
            row[h] = BigInteger.ZERO;
            for (int i = 0; i < e; i++) {
                for (int j = 0; j < e; j++) {
                    int number = 10000 * h + 100 * i + j;
                    BigInteger pair = fit(a[i].multiply(b[j]), 1, number);
                    BigInteger share = fit(pair.multiply(BigInteger.valueOf(timesNumber(i, j, h))), 2, number);
                    row[h] = fit(row[h].add(share), 3, number);
                }
            }
        }
        return row;
    }

    private BigInteger[] turned(BigInteger[] a, int k) {
        BigInteger[] row = new BigInteger[e];
        for (int i = 0; i < e; i++) row[BigInteger.valueOf(k).add(BigInteger.valueOf(i)).mod(BigInteger.valueOf(e)).intValue()] = a[i];
        return row;
    }

    private long over(List<int[]> around, Over over) {
        why = new ArrayList<>(around);
        why.add(over.trouble);
        return OVER;
    }

    long put(int shelf, int i, long v) {
        if (noShelf(shelf) || noClass(i)) return NONE;
        shelves[shelf] = shelves[shelf].clone();
        shelves[shelf][i] = BigInteger.valueOf(v);
        return 1;
    }

    long of(int shelf, int i) {
        return noShelf(shelf) || noClass(i) ? VOID : shelves[shelf][i].longValueExact();
    }

    long whole(int shelf, int n) {
        if (noShelf(shelf)) return NONE;
        shelves[shelf] = whole((long) n);
        return 1;
    }

    private BigInteger[] periodRow(int i) {
        BigInteger[] row = whole(0L);
        row[i] = BigInteger.ONE;
        return row;
    }

    long period(int shelf, int i) {
        if (noShelf(shelf) || noClass(i)) return NONE;
        shelves[shelf] = periodRow(i);
        return 1;
    }

    long add(int shelf, int other, int to) {
        return two('+', shelf, other, to);
    }

    long less(int shelf, int other, int to) {
        return two('-', shelf, other, to);
    }

    long product(int shelf, int other, int to) {
        return two('*', shelf, other, to);
    }

    private long two(char sign, int shelf, int other, int to) {
        if (noShelf(shelf) || noShelf(other) || noShelf(to)) return NONE;
        try {
            shelves[to] = joined(sign, shelves[shelf], shelves[other]);
            return 1;
        } catch (Over over) {
            return over(List.of(), over);
        }
    }

    private BigInteger[] joined(char sign, BigInteger[] a, BigInteger[] b) {
        return sign == '*' ? product(a, b) : sum(a, b, sign == '+' ? 1 : -1);
    }

    /** The product of 1 and all the rows, one behind the other. */
    private BigInteger[] allTogether(List<BigInteger[]> rows) {
        BigInteger[] row = whole(1L);
        for (int k = 0; k < rows.size(); k++) {
            try {
                row = product(row, rows.get(k));
            } catch (Over over) {
                over(List.of(new int[] {5, k}), over);
                return null;
            }
        }
        return row;
    }

    long raise(int shelf, int n, int to) {
        if (noShelf(shelf) || noShelf(to)) return NONE;
        if (n < 0 || n > 40) return BAD;
        List<BigInteger[]> rows = new ArrayList<>();
        for (int k = 0; k < n; k++) rows.add(shelves[shelf]);
        BigInteger[] row = allTogether(rows);
        if (row == null) return OVER;
        shelves[to] = row;
        return 1;
    }

    long turn(int shelf, int k, int to) {
        if (noShelf(shelf) || noShelf(to)) return NONE;
        shelves[to] = turned(shelves[shelf], k);
        return 1;
    }

    long norm(int shelf) {
        if (noShelf(shelf)) return VOID;
        List<BigInteger[]> rows = new ArrayList<>();
        for (int k = 0; k < e; k++) rows.add(turned(shelves[shelf], k));
        BigInteger[] row = allTogether(rows);
        if (row == null) return VOID;
        for (BigInteger a : row) if (!a.equals(row[0])) throw new IllegalStateException();
        try {
            return fit(row[0].negate(), 4, e).longValueExact();
        } catch (Over over) {
            over(List.of(), over);
            return VOID;
        }
    }

    long trace(int shelf) {
        if (noShelf(shelf)) return VOID;
        BigInteger all = BigInteger.ZERO;
        try {
            for (int i = 0; i < e; i++) all = fit(all.add(shelves[shelf][i]), 4, i);
            return fit(all.negate(), 4, e).longValueExact();
        } catch (Over over) {
            over(List.of(), over);
            return VOID;
        }
    }

    long isWhole(int shelf) {
        if (noShelf(shelf)) return NONE;
        return Arrays.equals(shelves[shelf], turned(shelves[shelf], 1)) ? 1 : 0;
    }

    long alike(int shelf, int other) {
        if (noShelf(shelf) || noShelf(other)) return NONE;
        for (int k = 0; k < e; k++) if (Arrays.equals(turned(shelves[shelf], k), shelves[other])) return k;
        return NOT;
    }

    long why(int i, int what) {
        if (i < 0 || what < 0 || what > 1) return NONE;
        return i < why.size() ? why.get(i)[what] : NOT;
    }

    // ---- texts

    long feed(int letter) {
        if (letter < ' ' || letter > '~') return BAD;
        if (tape.length() == 80) return FULL;
        tape.append((char) letter);
        return tape.length();
    }

    long wipe() {
        long many = tape.length();
        tape = new StringBuilder();
        return many;
    }

    /** What is open in a text: the sum so far with its sign, the product so far, whether each is there. */
    private static final class Level {
        final int place;
        BigInteger[] sum;
        char sign;
        BigInteger[] product;

        Level(int place) {
            this.place = place;
        }
    }

    private List<int[]> brackets(List<Level> levels) {
        List<int[]> all = new ArrayList<>();
        for (Level level : levels) if (level.place >= 0) all.add(new int[] {6, level.place});
        return all;
    }

    private void takePart(Level level, BigInteger[] part) {
        level.product = level.product == null ? part : product(level.product, part);
    }

    private void closeProduct(Level level) {
        level.sum = level.sum == null ? level.product : joined(level.sign, level.sum, level.product);
        level.product = null;
    }

    private long faultAt(List<Level> levels, int place) {
        why = brackets(levels);
        why.add(new int[] {7, place});
        return -100 - place;
    }

    long read(int shelf) {
        if (noShelf(shelf)) return NONE;
        String text = tape.toString();
        tape = new StringBuilder();
        List<Level> levels = new ArrayList<>();
        levels.add(new Level(-1));
        try {
            return readAll(text, levels, shelf);
        } catch (Over over) {
            return over(brackets(levels), over);
        }
    }

    private long readAll(String text, List<Level> levels, int shelf) {
        boolean wantsPart = true;
        int at = 0;
        while (true) {
            Level level = levels.get(levels.size() - 1);
            char c = at < text.length() ? text.charAt(at) : '\0';
            if (wantsPart) {
                if (c == '(') {
                    if (levels.size() == 6) return faultAt(levels, at);
                    levels.add(new Level(at));
                    at++;
                    continue;
                }
                boolean isPeriod = c == 'n';
                int from = isPeriod ? at + 1 : at;
                int to = from;
                while (to < text.length() && to < from + (isPeriod ? 2 : 3) && Character.isDigit(text.charAt(to))) to++;
                if (to == from) return faultAt(levels, from);
                int value = Integer.parseInt(text.substring(from, to));
                if (isPeriod && value >= e) return faultAt(levels, to - 1);
                at = to;
                takePart(level, isPeriod ? periodRow(value) : whole((long) value));
                wantsPart = false;
                continue;
            }
            if (c == '*') {
                wantsPart = true;
                at++;
                continue;
            }
            closeProduct(level);
            if (c == '+' || c == '-') {
                level.sign = c;
                wantsPart = true;
                at++;
            } else if (levels.size() == 1) {
                if (at < text.length()) return faultAt(levels, at);
                shelves[shelf] = level.sum;
                return 1;
            } else {
                if (c != ')') return faultAt(levels, at);
                levels.remove(levels.size() - 1);
                takePart(levels.get(levels.size() - 1), level.sum);
                at++;
            }
        }
    }

    // ---- lists, the image

    private static boolean noList(int list) {
        return list < 0 || list > 2;
    }

    long list(int list, int n) {
        if (noList(list)) return NONE;
        if (n > 15) return BAD;
        if (n < -1) return BELOW;
        lists[list] = n == -1 ? null : new long[n];
        return 1;
    }

    long lay(int list, int i, long v) {
        if (noList(list)) return NONE;
        if (lists[list] == null) return MISSING;
        if (i < 0 || i >= lists[list].length) return PLACE;
        lists[list][i] = v;
        return 1;
    }

    long get(int list, int i) {
        if (noList(list) || lists[list] == null || i < 0 || i >= lists[list].length) return VOID;
        return lists[list][i];
    }

    long film(int list, int shelf) {
        if (noList(list) || noShelf(shelf)) return NONE;
        lists[list] = new long[e];
        for (int i = 0; i < e; i++) lists[list][i] = of(shelf, i);
        return e;
    }

    long judge(int list, int i) {
        if (noList(list) || noClass(i)) return NONE;
        long[] told = lists[list];
        if (told == null) return MISSING;
        long[] right = new long[e];
        for (int j = 0; j < e; j++) right[j] = beside(i, j);
        int other = Arrays.mismatch(told, right);
        return other < 0 ? NOT : other == told.length ? 100 + other : other;
    }

    long image() {
        image = new int[] {p, e, g};
        imageShelves = shelves.clone();
        return p;
    }

    long undo() {
        if (image == null) return STATE;
        p = image[0];
        e = image[1];
        g = image[2];
        shelves = imageShelves.clone();
        timesNumbers = null;
        return p;
    }

    long count(int what) {
        if (what == 0) return tape.length();
        if (what == 1) return why.size();
        long many = 0;
        if (what == 2) for (long[] list : lists) if (list != null) many++;
        if (what == 3) for (BigInteger[] row : shelves) for (BigInteger a : row) if (a.signum() != 0) { many++; break; }
        return what == 2 || what == 3 ? many : NONE;
    }
}
