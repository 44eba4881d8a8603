/** Sums of roots of one by classes of powers, as ../shared/DOC.md tells them. */
public final class PowerClasses {
    public static final int NONE = -1, BAD = -2, STATE = -3, FULL = -4, NOT = -5, OVER = -9, MISSING = -11, PLACE = -13, BELOW = -14;
    public static final long VOID = Long.MIN_VALUE;

    private static final int GREATEST_PRIME = 61;
    private static final int MOST_CLASSES = 12;
    private static final int MOST_RAISED = 40;
    private static final int GREATEST_DIVISOR = 97;
    private static final int SHELVES = 4;
    private static final int LISTS = 3;
    private static final int LONGEST_LIST = 15;
    private static final int LONGEST_TAPE = 80;
    private static final int MOST_OPEN = 5;

    private static final int PAIR_OVER = 1;
    private static final int SHARE_OVER = 2;
    private static final int PRODUCT_OVER = 3;
    private static final int SUM_OVER = 4;
    private static final int IN_MULTIPLYING = 5;
    private static final int IN_BRACKET = 6;
    private static final int FAULT = 7;

    private final Classes classes;
    private final Troubles troubles;
    private final Reckoner reckoner;
    private final Reader reader;
    private final long[][] shelves;
    private final long[][] lists;
    private final int[] sizes;
    private final long[][] imageShelves;
    private boolean imageTaken;
    private int imagePrime;
    private int imageClasses;
    private int imageGenerator;

    public PowerClasses() {
        classes = new Classes(13, 3);
        troubles = new Troubles();
        reckoner = new Reckoner(classes, troubles);
        reader = new Reader(classes, reckoner, troubles);
        shelves = new long[SHELVES][MOST_CLASSES];
        lists = new long[LISTS][LONGEST_LIST];
        sizes = new int[LISTS];
        for (int list = 0; list < LISTS; list++) sizes[list] = -1;
        imageShelves = new long[SHELVES][MOST_CLASSES];
    }

    // ---- the prime, classes

    public int field(int p, int e) {
        if (!isOddPrime(p)) return BAD;
        if (e < 1 || e > MOST_CLASSES || (p - 1) % e != 0) return STATE;
        int before = classes.p;
        classes.settle(p, e);
        for (int shelf = 0; shelf < SHELVES; shelf++) setWhole(shelves[shelf], 0);
        return before;
    }

    public int told(int what) {
        switch (what) {
            case 0: return classes.p;
            case 1: return classes.e;
            case 2: return classes.f;
            case 3: return classes.g;
            case 4: return classes.generatorCount;
            default: return NONE;
        }
    }

    public int generator(int i) {
        if (i < 0 || i >= classes.generatorCount) return NONE;
        return classes.generators[i];
    }

    public int use(int g) {
        if (!classes.isGenerator(g)) return BAD;
        int before = classes.g;
        classes.takeGenerator(g);
        return before;
    }

    public int power(int x) {
        if (!isNumberOfPrime(x)) return NONE;
        return classes.powers[x];
    }

    public int classOf(int x) {
        if (!isNumberOfPrime(x)) return NONE;
        return classes.powers[x] % classes.e;
    }

    public int member(int i, int k) {
        if (!isClass(i) || k < 0 || k >= classes.f) return NONE;
        int before = 0;
        for (int x = 1; x < classes.p; x++) {
            if (classes.powers[x] % classes.e != i) continue;
            if (before == k) return x;
            before++;
        }
        return NONE;
    }

    public int beside(int i, int j) {
        if (!isClass(i) || !isClass(j)) return NONE;
        return classes.neighbours[i * MOST_CLASSES + j];
    }

    public int meets(int i, int j, int h) {
        if (!isClass(i) || !isClass(j) || !isClass(h)) return NONE;
        int timesNumber = classes.factors[factorIndex(i, j, h)];
        return classes.oppositeOf(i) == j ? timesNumber + classes.f : timesNumber;
    }

    public int times(int i, int j, int h) {
        if (!isClass(i) || !isClass(j) || !isClass(h)) return NONE;
        return 1000 + classes.factors[factorIndex(i, j, h)];
    }

    public int opposite(int i) {
        if (!isClass(i)) return NONE;
        return classes.oppositeOf(i);
    }

    public int around(int i, int what) {
        if (!isClass(i) || what < 0 || what > 1) return NONE;
        int all = 0;
        for (int j = 0; j < classes.e; j++) {
            all += classes.neighbours[what == 0 ? i * MOST_CLASSES + j : j * MOST_CLASSES + i];
        }
        return all;
    }

    public int solved(int a, int b, int c) {
        if (!isRest(a) || !isRest(b) || !isRest(c)) return NONE;
        int p = classes.p;
        int pairs = 0;
        for (int x = 0; x < p; x++) {
            for (int y = 0; y < p; y++) {
                if ((a * classes.raised[x] + b * classes.raised[y]) % p == c) pairs++;
            }
        }
        return pairs;
    }

    // ---- the polynomial

    public long polynomial(int k) {
        if (k < 0 || k > classes.e) return VOID;
        return classes.coefficients[k];
    }

    public int roots(int q) {
        if (q < 2 || q > GREATEST_DIVISOR) return BAD;
        int found = 0;
        for (int x = 0; x < q; x++) {
            long value = 0;
            for (int k = classes.e; k >= 0; k--) value = (value * x + classes.coefficients[k]) % q;
            if (value == 0) found++;
        }
        return found;
    }

    // ---- numbers

    public int put(int shelf, int i, long v) {
        if (!isShelf(shelf) || !isClass(i)) return NONE;
        shelves[shelf][i] = v;
        return 1;
    }

    public long of(int shelf, int i) {
        if (!isShelf(shelf) || !isClass(i)) return VOID;
        return shelves[shelf][i];
    }

    public int whole(int shelf, int n) {
        if (!isShelf(shelf)) return NONE;
        setWhole(shelves[shelf], n);
        return 1;
    }

    public int period(int shelf, int i) {
        if (!isShelf(shelf) || !isClass(i)) return NONE;
        setPeriod(shelves[shelf], i);
        return 1;
    }

    public int add(int shelf, int other, int to) {
        if (!isShelf(shelf) || !isShelf(other) || !isShelf(to)) return NONE;
        return reckoner.sum(shelves[shelf], shelves[other], shelves[to]) ? 1 : OVER;
    }

    public int less(int shelf, int other, int to) {
        if (!isShelf(shelf) || !isShelf(other) || !isShelf(to)) return NONE;
        return reckoner.difference(shelves[shelf], shelves[other], shelves[to]) ? 1 : OVER;
    }

    public int product(int shelf, int other, int to) {
        if (!isShelf(shelf) || !isShelf(other) || !isShelf(to)) return NONE;
        return reckoner.multiply(shelves[shelf], shelves[other], shelves[to]) ? 1 : OVER;
    }

    public int raise(int shelf, int n, int to) {
        if (!isShelf(shelf) || !isShelf(to)) return NONE;
        if (n < 0 || n > MOST_RAISED) return BAD;
        return reckoner.multiplyOften(shelves[shelf], n, shelves[to]) ? 1 : OVER;
    }

    public int turn(int shelf, int k, int to) {
        if (!isShelf(shelf) || !isShelf(to)) return NONE;
        reckoner.turnRow(shelves[shelf], k, shelves[to]);
        return 1;
    }

    public long norm(int shelf) {
        if (!isShelf(shelf)) return VOID;
        return reckoner.normOf(shelves[shelf]);
    }

    public long trace(int shelf) {
        if (!isShelf(shelf)) return VOID;
        return reckoner.traceOf(shelves[shelf]);
    }

    public int isWhole(int shelf) {
        if (!isShelf(shelf)) return NONE;
        for (int i = 1; i < classes.e; i++) {
            if (shelves[shelf][i] != shelves[shelf][0]) return 0;
        }
        return 1;
    }

    public int alike(int shelf, int other) {
        if (!isShelf(shelf) || !isShelf(other)) return NONE;
        for (int k = 0; k < classes.e; k++) {
            if (isTurnedBy(shelves[shelf], k, shelves[other])) return k;
        }
        return NOT;
    }

    public int why(int i, int what) {
        if (i < 0 || what < 0 || what > 1) return NONE;
        if (i >= troubles.toldCount) return NOT;
        return what == 0 ? troubles.toldSorts[i] : troubles.toldNumbers[i];
    }

    // ---- texts

    public int feed(int letter) {
        if (letter < 32 || letter > 126) return BAD;
        if (reader.length >= LONGEST_TAPE) return FULL;
        reader.append(letter);
        return reader.length;
    }

    public int wipe() {
        int before = reader.length;
        reader.length = 0;
        return before;
    }

    public int read(int shelf) {
        if (!isShelf(shelf)) return NONE;
        int answer = reader.readTo(shelves[shelf]);
        reader.length = 0;
        return answer;
    }

    // ---- lists, the image

    public int list(int list, int n) {
        if (!isList(list)) return NONE;
        if (n > LONGEST_LIST) return BAD;
        if (n < -1) return BELOW;
        sizes[list] = n;
        for (int i = 0; i < n; i++) lists[list][i] = 0;
        return 1;
    }

    public int lay(int list, int i, long v) {
        if (!isList(list)) return NONE;
        if (sizes[list] < 0) return MISSING;
        if (i < 0 || i >= sizes[list]) return PLACE;
        lists[list][i] = v;
        return 1;
    }

    public long get(int list, int i) {
        if (!isList(list) || i < 0 || i >= sizes[list]) return VOID;
        return lists[list][i];
    }

    public int film(int list, int shelf) {
        if (!isList(list) || !isShelf(shelf)) return NONE;
        sizes[list] = classes.e;
        copyRow(shelves[shelf], lists[list]);
        return classes.e;
    }

    public int judge(int list, int i) {
        if (!isList(list) || !isClass(i)) return NONE;
        int size = sizes[list];
        if (size < 0) return MISSING;
        for (int j = 0; j < size; j++) {
            if (j >= classes.e || lists[list][j] != classes.neighbours[i * MOST_CLASSES + j]) return j;
        }
        return size < classes.e ? 100 + size : NOT;
    }

    public int image() {
        imageTaken = true;
        imagePrime = classes.p;
        imageClasses = classes.e;
        imageGenerator = classes.g;
        for (int shelf = 0; shelf < SHELVES; shelf++) copyRow(shelves[shelf], imageShelves[shelf]);
        return classes.p;
    }

    public int undo() {
        if (!imageTaken) return STATE;
        classes.settle(imagePrime, imageClasses);
        classes.takeGenerator(imageGenerator);
        for (int shelf = 0; shelf < SHELVES; shelf++) copyRow(imageShelves[shelf], shelves[shelf]);
        return classes.p;
    }

    public int count(int what) {
        switch (what) {
            case 0: return reader.length;
            case 1: return troubles.toldCount;
            case 2: return listsThere();
            case 3: return shelvesInUse();
            default: return NONE;
        }
    }

    private int listsThere() {
        int there = 0;
        for (int list = 0; list < LISTS; list++) {
            if (sizes[list] >= 0) there++;
        }
        return there;
    }

    private int shelvesInUse() {
        int inUse = 0;
        for (int shelf = 0; shelf < SHELVES; shelf++) {
            if (!isZero(shelves[shelf])) inUse++;
        }
        return inUse;
    }

    private boolean isZero(long[] row) {
        for (int i = 0; i < classes.e; i++) {
            if (row[i] != 0) return false;
        }
        return true;
    }

    private boolean isTurnedBy(long[] row, int k, long[] other) {
        for (int i = 0; i < classes.e; i++) {
            if (other[(i + k) % classes.e] != row[i]) return false;
        }
        return true;
    }

    private boolean isClass(int i) {
        return i >= 0 && i < classes.e;
    }

    private boolean isNumberOfPrime(int x) {
        return x >= 1 && x < classes.p;
    }

    private boolean isRest(int x) {
        return x >= 0 && x < classes.p;
    }

    private static boolean isShelf(int shelf) {
        return shelf >= 0 && shelf < SHELVES;
    }

    private static boolean isList(int list) {
        return list >= 0 && list < LISTS;
    }

    private static boolean isOddPrime(int p) {
        if (p < 3 || p > GREATEST_PRIME || p % 2 == 0) return false;
        for (int d = 3; d < p; d += 2) {
            if (p % d == 0) return false;
        }
        return true;
    }

    private static int factorIndex(int i, int j, int h) {
        return (i * MOST_CLASSES + j) * MOST_CLASSES + h;
    }

    // Rows are as long as E can be, and handled whole: what lies behind E is never asked.

    private static void setWhole(long[] row, int n) {
        for (int i = 0; i < MOST_CLASSES; i++) row[i] = -(long) n;
    }

    private static void setPeriod(long[] row, int i) {
        setWhole(row, 0);
        row[i] = 1;
    }

    private static void copyRow(long[] from, long[] to) {
        for (int i = 0; i < MOST_CLASSES; i++) to[i] = from[i];
    }

    /** The prime, its generators, and all that follows from them. */
    private static final class Classes {
        int p;
        int e;
        int f;
        int g;
        int generatorCount;
        final int[] generators = new int[GREATEST_PRIME];
        /** By a number of the prime, its POWER. */
        final int[] powers = new int[GREATEST_PRIME];
        /** By a number of the prime or 0, that to the E-th. */
        final int[] raised = new int[GREATEST_PRIME];
        /** BESIDE. */
        final int[] neighbours = new int[MOST_CLASSES * MOST_CLASSES];
        /** TIMES, which every PRODUCT asks for at each of its steps. */
        final int[] factors = new int[MOST_CLASSES * MOST_CLASSES * MOST_CLASSES];
        final long[] coefficients = new long[MOST_CLASSES + 1];
        private final long[] powerSums = new long[MOST_CLASSES + 1];
        private final long[] periodPower = new long[MOST_CLASSES];
        private final long[] nextPower = new long[MOST_CLASSES];

        Classes(int p, int e) {
            settle(p, e);
        }

        void settle(int p, int e) {
            this.p = p;
            this.e = e;
            this.f = (p - 1) / e;
            findGenerators();
            findRaised();
            takeGenerator(generators[0]);
            // Another generator only renames the periods, so their polynomial need not be found again by it.
            findPolynomial();
        }

        void takeGenerator(int g) {
            this.g = g;
            findPowers();
            findNeighbours();
            findFactors();
        }

        boolean isGenerator(int x) {
            if (x < 1 || x >= p) return false;
            int value = 1;
            for (int k = 1; k < p - 1; k++) {
                value = value * x % p;
                if (value == 1) return false;
            }
            return true;
        }

        int oppositeOf(int i) {
            // P less 1 is G to the half of P less 1.
            return (i + (p - 1) / 2) % e;
        }

        private int classNumber(int x) {
            return powers[x] % e;
        }

        private void findGenerators() {
            generatorCount = 0;
            for (int x = 1; x < p; x++) {
                if (isGenerator(x)) {
                    generators[generatorCount] = x;
                    generatorCount++;
                }
            }
        }

        private void findRaised() {
            for (int x = 0; x < p; x++) {
                int value = 1;
                for (int k = 0; k < e; k++) value = value * x % p;
                raised[x] = value;
            }
        }

        private void findPowers() {
            int value = 1;
            for (int k = 0; k < p - 1; k++) {
                powers[value] = k;
                value = value * g % p;
            }
        }

        private void findNeighbours() {
            for (int at = 0; at < neighbours.length; at++) neighbours[at] = 0;
            for (int x = 1; x + 1 < p; x++) neighbours[classNumber(x) * MOST_CLASSES + classNumber(x + 1)]++;
        }

        private void findFactors() {
            for (int i = 0; i < e; i++) {
                for (int j = 0; j < e; j++) {
                    int start = oppositeOf(i) == j ? -f : 0;
                    for (int h = 0; h < e; h++) factors[factorIndex(i, j, h)] = start;
                }
            }
            int z = 1;
            for (int h = 0; h < e; h++) {
                countMeetings(z, h);
                z = z * g % p;
            }
        }

        private void countMeetings(int z, int h) {
            for (int x = 1; x < p; x++) {
                if (x == z) continue;
                int y = x < z ? z - x : z - x + p;
                factors[factorIndex(classNumber(x), classNumber(y), h)]++;
            }
        }

        /** By Newton's rule, from the sums of the periods' powers: far fewer steps than the product itself. */
        private void findPolynomial() {
            findPowerSums();
            coefficients[e] = 1;
            for (int k = 1; k <= e; k++) {
                long all = 0;
                for (int i = 1; i <= k; i++) all += powerSums[i] * coefficients[e - k + i];
                coefficients[e - k] = -all / k;
            }
        }

        private void findPowerSums() {
            setPeriod(periodPower, 0);
            for (int k = 1; k <= e; k++) {
                // The k-th powers of all periods are the first one's turned: together its trace.
                long all = 0;
                for (int i = 0; i < e; i++) all += periodPower[i];
                powerSums[k] = -all;
                multiplyByFirstPeriod();
            }
        }

        private void multiplyByFirstPeriod() {
            for (int h = 0; h < e; h++) {
                long all = 0;
                for (int i = 0; i < e; i++) all += periodPower[i] * factors[factorIndex(i, 0, h)];
                nextPower[h] = all;
            }
            copyRow(nextPower, periodPower);
        }
    }

    /** What went wrong last, and what is being done now that a trouble would be the cause of. */
    private static final class Troubles {
        private static final int MOST = MOST_OPEN + 1;

        int toldCount;
        final int[] toldSorts = new int[MOST];
        final int[] toldNumbers = new int[MOST];
        private int openCount;
        private final int[] openSorts = new int[MOST];
        private final int[] openNumbers = new int[MOST];

        void enter(int sort, int number) {
            if (openCount >= MOST - 1) return;
            openSorts[openCount] = sort;
            openNumbers[openCount] = number;
            openCount++;
        }

        void leave() {
            if (openCount > 0) openCount--;
        }

        /** Always false, so that who meets a trouble can return it. */
        boolean report(int sort, int number) {
            for (int i = 0; i < openCount; i++) {
                toldSorts[i] = openSorts[i];
                toldNumbers[i] = openNumbers[i];
            }
            toldSorts[openCount] = sort;
            toldNumbers[openCount] = number;
            toldCount = openCount + 1;
            openCount = 0;
            return false;
        }
    }

    /** Reckons with rows. What it cannot answer it reports, leaving the row asked for as it was. */
    private static final class Reckoner {
        private final Classes classes;
        private final Troubles troubles;
        private final long[] result = new long[MOST_CLASSES];
        private final long[] grown = new long[MOST_CLASSES];
        private final long[] turned = new long[MOST_CLASSES];

        Reckoner(Classes classes, Troubles troubles) {
            this.classes = classes;
            this.troubles = troubles;
        }

        boolean sum(long[] a, long[] b, long[] to) {
            for (int h = 0; h < classes.e; h++) {
                if (!sumFits(a[h], b[h])) return troubles.report(SUM_OVER, h);
                result[h] = a[h] + b[h];
            }
            copyRow(result, to);
            return true;
        }

        boolean difference(long[] a, long[] b, long[] to) {
            for (int h = 0; h < classes.e; h++) {
                if (!differenceFits(a[h], b[h])) return troubles.report(SUM_OVER, h);
                result[h] = a[h] - b[h];
            }
            copyRow(result, to);
            return true;
        }

        boolean multiply(long[] a, long[] b, long[] to) {
            for (int h = 0; h < classes.e; h++) {
                if (!multiplyAt(h, a, b)) return false;
            }
            copyRow(result, to);
            return true;
        }

        private boolean multiplyAt(int h, long[] a, long[] b) {
            long all = 0;
            for (int i = 0; i < classes.e; i++) {
                for (int j = 0; j < classes.e; j++) {
                    int number = 10000 * h + 100 * i + j;
                    if (!productFits(a[i], b[j])) return troubles.report(PAIR_OVER, number);
                    long pair = a[i] * b[j];
                    long factor = classes.factors[factorIndex(i, j, h)];
                    if (!productFits(pair, factor)) return troubles.report(SHARE_OVER, number);
                    long share = pair * factor;
                    if (!sumFits(all, share)) return troubles.report(PRODUCT_OVER, number);
                    all += share;
                }
            }
            result[h] = all;
            return true;
        }

        boolean multiplyOften(long[] a, int n, long[] to) {
            setWhole(grown, 1);
            for (int k = 0; k < n; k++) {
                if (!grow(a, k)) return false;
            }
            copyRow(grown, to);
            return true;
        }

        private boolean grow(long[] by, int k) {
            troubles.enter(IN_MULTIPLYING, k);
            if (!multiply(grown, by, grown)) return false;
            troubles.leave();
            return true;
        }

        void turnRow(long[] a, int k, long[] to) {
            int steps = Math.floorMod(k, classes.e);
            for (int i = 0; i < classes.e; i++) result[(i + steps) % classes.e] = a[i];
            copyRow(result, to);
        }

        long normOf(long[] a) {
            setWhole(grown, 1);
            for (int k = 0; k < classes.e; k++) {
                turnRow(a, k, turned);
                if (!grow(turned, k)) return VOID;
            }
            return negated(grown[0]);
        }

        long traceOf(long[] a) {
            long all = 0;
            for (int i = 0; i < classes.e; i++) {
                if (!sumFits(all, a[i])) {
                    troubles.report(SUM_OVER, i);
                    return VOID;
                }
                all += a[i];
            }
            return negated(all);
        }

        private long negated(long value) {
            if (differenceFits(0, value)) return -value;
            troubles.report(SUM_OVER, classes.e);
            return VOID;
        }

        private static boolean sumFits(long x, long y) {
            long sum = x + y;
            return ((x ^ sum) & (y ^ sum)) >= 0;
        }

        private static boolean differenceFits(long x, long y) {
            long difference = x - y;
            return ((x ^ y) & (x ^ difference)) >= 0;
        }

        private static boolean productFits(long x, long y) {
            if (y == 0) return true;
            // Dividing the least long by -1 would give it back and so hide that it does not fit.
            if (y == -1) return x != Long.MIN_VALUE;
            return x * y / y == x;
        }
    }

    /** THE TAPE, and the reading of it: each depth of brackets has rows of its own. */
    private static final class Reader {
        private static final int END = -1;
        private static final int NO_FAULT = -1;

        private final Classes classes;
        private final Reckoner reckoner;
        private final Troubles troubles;
        private final byte[] tape = new byte[LONGEST_TAPE];
        private final long[][] sums = new long[MOST_OPEN + 1][MOST_CLASSES];
        private final long[][] products = new long[MOST_OPEN + 1][MOST_CLASSES];
        private final long[][] parts = new long[MOST_OPEN + 1][MOST_CLASSES];
        int length;
        private int place;
        private int fault;

        Reader(Classes classes, Reckoner reckoner, Troubles troubles) {
            this.classes = classes;
            this.reckoner = reckoner;
            this.troubles = troubles;
        }

        void append(int letter) {
            if (length >= LONGEST_TAPE) return;
            tape[length] = (byte) letter;
            length++;
        }

        int readTo(long[] to) {
            place = 0;
            fault = NO_FAULT;
            if (readSum(0) && (letter() == END || faultAt(place))) {
                copyRow(sums[0], to);
                return 1;
            }
            return fault == NO_FAULT ? OVER : -100 - fault;
        }

        private boolean readSum(int open) {
            if (!readProduct(open)) return false;
            copyRow(products[open], sums[open]);
            for (int joined = 0; joined < LONGEST_TAPE && isSign(letter()); joined++) {
                boolean adding = letter() == '+';
                place++;
                if (!readProduct(open) || !joinProduct(adding, open)) return false;
            }
            return true;
        }

        private boolean joinProduct(boolean adding, int open) {
            if (adding) return reckoner.sum(sums[open], products[open], sums[open]);
            return reckoner.difference(sums[open], products[open], sums[open]);
        }

        private boolean readProduct(int open) {
            if (!readPart(open)) return false;
            copyRow(parts[open], products[open]);
            for (int joined = 0; joined < LONGEST_TAPE && letter() == '*'; joined++) {
                place++;
                if (!readPart(open) || !reckoner.multiply(products[open], parts[open], products[open])) return false;
            }
            return true;
        }

        private boolean readPart(int open) {
            if (isFigure(letter())) {
                setWhole(parts[open], readFigures(3));
                return true;
            }
            if (letter() == 'n') return readPeriod(parts[open]);
            if (letter() == '(' && open < MOST_OPEN) return readBracket(open);
            return faultAt(place);
        }

        private boolean readPeriod(long[] to) {
            place++;
            if (!isFigure(letter())) return faultAt(place);
            int i = readFigures(2);
            if (i >= classes.e) return faultAt(place - 1);
            setPeriod(to, i);
            return true;
        }

        private boolean readBracket(int open) {
            troubles.enter(IN_BRACKET, place);
            place++;
            if (!readSum(open + 1)) return false;
            if (letter() != ')') return faultAt(place);
            place++;
            troubles.leave();
            copyRow(sums[open + 1], parts[open]);
            return true;
        }

        private int readFigures(int most) {
            int value = 0;
            for (int i = 0; i < most && isFigure(letter()); i++) {
                value = 10 * value + letter() - '0';
                place++;
            }
            return value;
        }

        private boolean faultAt(int at) {
            fault = at;
            return troubles.report(FAULT, at);
        }

        private int letter() {
            return place < length ? tape[place] : END;
        }

        private static boolean isSign(int letter) {
            return letter == '+' || letter == '-';
        }

        private static boolean isFigure(int letter) {
            return letter >= '0' && letter <= '9';
        }
    }
}
