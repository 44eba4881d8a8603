/** For each promise of the document: ordinary inputs, its edges, wrong inputs. */
public final class PromiseTest {
    private static final int NONE = -1, BAD = -2, STATE = -3, FULL = -4, NOT = -5, OVER = -9, MISSING = -11, PLACE = -13, BELOW = -14;
    private static final long VOID = Long.MIN_VALUE, MOST = Long.MAX_VALUE, LEAST = Long.MIN_VALUE;
    private static final int FAR = Integer.MAX_VALUE, DEEP = Integer.MIN_VALUE;
    /** A text whose whole number is just below the greatest long; V9 is that number. */
    private static final String V = "999*999*999*999*999*999*9";
    private static final long V9 = 999L * 999 * 999 * 999 * 999 * 999 * 9;

    private static final Checks checks = new Checks("PromiseTest");
    private static PowerClasses x;

    public static void main(String[] args) {
        constants();
        newObject();
        theField();
        classNumbers();
        neighbours();
        solutions();
        thePolynomial();
        placesOfShelves();
        sums();
        products();
        raising();
        turning();
        norms();
        traces();
        wholeAndAlike();
        theWhy();
        theTape();
        texts();
        faults();
        overInTexts();
        lists();
        judging();
        theImage();
        counts();
        checks.finish();
    }

    private static void part(String name) {
        checks.begin(name);
        x = new PowerClasses();
    }

    private static void due(String what, long got, long want) {
        checks.same(what, got, want);
    }

    private static void setRow(int shelf, long... row) {
        for (int i = 0; i < row.length; i++) due("put " + shelf + " " + i, x.put(shelf, i, row[i]), 1);
    }

    private static void dueRow(String what, int shelf, long... row) {
        due(what + ": E", x.told(1), row.length);
        for (int i = 0; i < row.length; i++) due(what + ": of(" + shelf + ", " + i + ")", x.of(shelf, i), row[i]);
    }

    /** Pairs of sort and number, the outermost first. */
    private static void dueWhy(String what, int... pairs) {
        due(what + ": count(1)", x.count(1), pairs.length / 2);
        for (int i = 0; i + 1 < pairs.length; i += 2) {
            due(what + ": sort " + i / 2, x.why(i / 2, 0), pairs[i]);
            due(what + ": number " + i / 2, x.why(i / 2, 1), pairs[i + 1]);
        }
        due(what + ": no more", x.why(pairs.length / 2, 0), NOT);
        due(what + ": no more", x.why(pairs.length / 2, 1), NOT);
    }

    private static void feedText(String text) {
        for (int i = 0; i < text.length(); i++) due("feed " + text.charAt(i), x.feed(text.charAt(i)), i + 1);
    }

    private static void dueText(int answer, String text) {
        feedText(text);
        due("read of " + text, x.read(0), answer);
        due("tape behind " + text, x.count(0), 0);
    }

    /** The text is at fault at the place, in brackets that open at the places told behind it. */
    private static void dueFault(int place, String text, int... brackets) {
        setRow(0, new long[] {7});
        dueText(-100 - place, text);
        due("shelf behind " + text, x.of(0, 0), 7);
        int[] pairs = new int[2 * brackets.length + 2];
        for (int i = 0; i < brackets.length; i++) {
            pairs[2 * i] = 6;
            pairs[2 * i + 1] = brackets[i];
        }
        pairs[2 * brackets.length] = 7;
        pairs[2 * brackets.length + 1] = place;
        dueWhy(text, pairs);
    }

    private static void constants() {
        checks.begin("constants");
        due("NONE", PowerClasses.NONE, -1);
        due("BAD", PowerClasses.BAD, -2);
        due("STATE", PowerClasses.STATE, -3);
        due("FULL", PowerClasses.FULL, -4);
        due("NOT", PowerClasses.NOT, -5);
        due("OVER", PowerClasses.OVER, -9);
        due("MISSING", PowerClasses.MISSING, -11);
        due("PLACE", PowerClasses.PLACE, -13);
        due("BELOW", PowerClasses.BELOW, -14);
        due("VOID", PowerClasses.VOID, Long.MIN_VALUE);
    }

    private static void newObject() {
        part("promise 1: a new object");
        due("told(0)", x.told(0), 13);
        due("told(1)", x.told(1), 3);
        for (int shelf = 0; shelf < 4; shelf++) dueRow("new", shelf, 0, 0, 0);
        for (int list = 0; list < 3; list++) due("get", x.get(list, 0), VOID);
        for (int what = 0; what < 4; what++) due("count " + what, x.count(what), 0);
        due("told(3)", x.told(3), 2);
        due("undo", x.undo(), STATE);
        due("why", x.why(0, 0), NOT);
    }

    private static void theField() {
        part("promise 2: field");
        due("field", x.field(61, 12), 13);
        due("field", x.field(3, 1), 61);
        due("field", x.field(3, 2), 3);
        due("told", x.told(0) * 100 + x.told(1) * 10 + x.told(2), 321);
        int[] noPrimes = {DEEP, -3, -1, 0, 1, 2, 4, 9, 15, 21, 25, 27, 33, 35, 39, 45, 49, 51, 55, 57, 60, 62, 63, 67, 71, FAR};
        for (int p : noPrimes) due("field " + p, x.field(p, 1), BAD);
        due("field, both wrong", x.field(9, 0), BAD);
        int[] primes = {3, 5, 7, 11, 13, 17, 19, 23, 29, 31, 37, 41, 43, 47, 53, 59, 61};
        int[] leastGenerators = {2, 2, 3, 2, 2, 3, 2, 5, 2, 3, 2, 6, 3, 5, 2, 2, 2};
        int before = 3;
        for (int i = 0; i < primes.length; i++) {
            due("field " + primes[i], x.field(primes[i], 2), before);
            due("generator of " + primes[i], x.told(3), leastGenerators[i]);
            before = primes[i];
        }
        due("30 classes", x.field(61, 30), STATE);
        due("13 classes", x.field(53, 13), STATE);
        due("12 classes", x.field(37, 12), 61);
        due("0 classes", x.field(13, 0), STATE);
        due("-1 classes", x.field(13, -1), STATE);
        due("-3 classes", x.field(13, -3), STATE);
        due("5 classes", x.field(13, 5), STATE);
        due("far classes", x.field(13, FAR), STATE);
        due("deep classes", x.field(13, DEEP), STATE);
        due("nothing changed", x.told(0), 37);
        part("promise 2: field clears");
        for (int shelf = 0; shelf < 4; shelf++) setRow(shelf, 1, 2, 3);
        x.list(0, 2);
        x.lay(0, 1, 5);
        x.feed('n');
        x.use(11);
        due("STATE", x.field(13, 5), STATE);
        due("BAD", x.field(15, 5), BAD);
        dueRow("kept", 0, 1, 2, 3);
        due("kept G", x.told(3), 11);
        due("same field", x.field(13, 3), 13);
        due("least G", x.told(3), 2);
        for (int shelf = 0; shelf < 4; shelf++) dueRow("cleared", shelf, 0, 0, 0);
        due("list stays", x.get(0, 1), 5);
        due("tape stays", x.count(0), 1);
        part("promise 2: field, more classes");
        setRow(1, 5, 6, 7);
        due("field", x.field(13, 12), 13);
        dueRow("cleared", 1, 0, 0, 0, 0, 0, 0, 0, 0, 0, 0, 0, 0);
        due("why", x.count(1), 0);
    }

    private static void classNumbers() {
        part("promise 3: told");
        int[] due13 = {13, 3, 4, 2, 4};
        for (int what = 0; what < 5; what++) due("told " + what, x.told(what), due13[what]);
        for (int what : new int[] {-1, 5, FAR, DEEP}) due("told " + what, x.told(what), NONE);
        x.field(59, 2);
        int[] due59 = {59, 2, 29, 2, 28};
        for (int what = 0; what < 5; what++) due("told " + what, x.told(what), due59[what]);
        x.field(3, 1);
        due("one generator", x.told(4), 1);

        part("promise 4: generator");
        int[] generators = {2, 6, 7, 11};
        for (int i = 0; i < 4; i++) due("generator " + i, x.generator(i), generators[i]);
        for (int i : new int[] {-1, 4, FAR, DEEP}) due("generator " + i, x.generator(i), NONE);
        x.field(7, 3);
        due("generator 0", x.generator(0), 3);
        due("generator 1", x.generator(1), 5);
        due("generator 2", x.generator(2), NONE);

        part("promise 5: use");
        setRow(0, 4, 5, 6);
        due("use 7", x.use(7), 2);
        due("use 7 again", x.use(7), 7);
        due("told", x.told(3), 7);
        // 7 is 2 to the 11-th: classes 1 and 2 change places.
        due("power of 7", x.power(7), 1);
        due("class of 2", x.classOf(2), 2);
        due("member", x.member(1, 0), 4);
        due("beside", x.beside(1, 1), 1);
        due("times", x.times(0, 0, 1), 998);
        due("polynomial", x.polynomial(1), -4);
        dueRow("stays", 0, 4, 5, 6);
        for (int g : new int[] {0, 1, 3, 4, 5, 12, 13, 15, 20, -2, -11, FAR, DEEP}) due("use " + g, x.use(g), BAD);
        due("told", x.told(3), 7);
        x.field(3, 2);
        due("use 1", x.use(1), BAD);
        due("use 2", x.use(2), 2);

        part("promise 6: power");
        int[] powers = {0, 1, 4, 2, 9, 5, 11, 3, 8, 10, 7, 6};
        for (int i = 0; i < 12; i++) due("power " + (i + 1), x.power(i + 1), powers[i]);
        for (int i : new int[] {-1, 0, 13, 14, FAR, DEEP}) due("power " + i, x.power(i), NONE);

        part("promise 7: classOf");
        for (int i = 0; i < 12; i++) due("classOf " + (i + 1), x.classOf(i + 1), powers[i] % 3);
        for (int i : new int[] {-1, 0, 13, 14, FAR, DEEP}) due("classOf " + i, x.classOf(i), NONE);
        x.field(13, 1);
        due("one class", x.classOf(11), 0);
        x.field(13, 12);
        due("twelve classes", x.classOf(7), 11);

        part("promise 8: member");
        int[][] members = {{1, 5, 8, 12}, {2, 3, 10, 11}, {4, 6, 7, 9}};
        for (int i = 0; i < 3; i++) {
            for (int k = 0; k < 4; k++) due("member " + i + " " + k, x.member(i, k), members[i][k]);
            for (int k : new int[] {-1, 4, FAR, DEEP}) due("member " + i + " " + k, x.member(i, k), NONE);
        }
        for (int i : new int[] {-1, 3, FAR, DEEP}) due("member of " + i, x.member(i, 0), NONE);
        x.field(61, 1);
        for (int k = 0; k < 60; k++) due("member " + k, x.member(0, k), k + 1);
        due("member 60", x.member(0, 60), NONE);
    }

    private static void neighbours() {
        part("promise 9: beside");
        int[][] beside = {{0, 1, 2}, {1, 2, 1}, {2, 1, 1}};
        for (int i = 0; i < 3; i++) {
            for (int j = 0; j < 3; j++) due("beside " + i + " " + j, x.beside(i, j), beside[i][j]);
        }
        for (int i : new int[] {-1, 3, FAR, DEEP}) {
            due("beside, first", x.beside(i, 0), NONE);
            due("beside, second", x.beside(0, i), NONE);
        }
        x.field(7, 2);
        due("beside 7", x.beside(0, 0) * 1000 + x.beside(0, 1) * 100 + x.beside(1, 0) * 10 + x.beside(1, 1), 1211);
        x.field(61, 1);
        due("beside, one class", x.beside(0, 0), 59);
        x.field(13, 3);
        due("counted anew", x.beside(0, 0), 0);
        x.use(6);
        due("counted anew", x.beside(0, 0), 0);

        part("promises 10, 11: meets, times");
        x.field(7, 2);
        int[] meets = {1, 2, 1, 1, 1, 1, 2, 1};
        int[] times = {1001, 1002, 998, 998, 998, 998, 1002, 1001};
        for (int at = 0; at < 8; at++) {
            due("meets " + at, x.meets(at / 4, at / 2 % 2, at % 2), meets[at]);
            due("times " + at, x.times(at / 4, at / 2 % 2, at % 2), times[at]);
        }
        for (int i : new int[] {-1, 2, FAR, DEEP}) {
            due("meets, first", x.meets(i, 0, 0), NONE);
            due("meets, second", x.meets(0, i, 0), NONE);
            due("meets, third", x.meets(0, 0, i), NONE);
            due("times, first", x.times(i, 0, 0), NONE);
            due("times, second", x.times(0, i, 0), NONE);
            due("times, third", x.times(0, 0, i), NONE);
        }
        x.field(3, 1);
        due("meets 3", x.meets(0, 0, 0), 1);
        due("times 3", x.times(0, 0, 0), 999);
        x.field(61, 1);
        due("meets 61", x.meets(0, 0, 0), 59);
        due("times 61", x.times(0, 0, 0), 999);

        part("promise 12: opposite");
        for (int i = 0; i < 3; i++) due("opposite " + i, x.opposite(i), i);
        for (int i : new int[] {-1, 3, FAR, DEEP}) due("opposite " + i, x.opposite(i), NONE);
        x.field(7, 2);
        due("opposite 0", x.opposite(0), 1);
        due("opposite 1", x.opposite(1), 0);
        x.field(61, 12);
        for (int i = 0; i < 12; i++) due("opposite " + i, x.opposite(i), (i + 6) % 12);

        part("promise 13: around");
        for (int i = 0; i < 3; i++) {
            due("around " + i, x.around(i, 0), i == 0 ? 3 : 4);
            due("around " + i, x.around(i, 1), i == 0 ? 3 : 4);
        }
        x.field(7, 2);
        due("around 0 0", x.around(0, 0), 3);
        due("around 1 0", x.around(1, 0), 2);
        due("around 0 1", x.around(0, 1), 2);
        due("around 1 1", x.around(1, 1), 3);
        x.field(61, 12);
        for (int i = 0; i < 12; i++) {
            due("around " + i, x.around(i, 0), i == 6 ? 4 : 5);
            due("around " + i, x.around(i, 1), i == 0 ? 4 : 5);
        }
        x.field(7, 2);
        for (int i : new int[] {-1, 2, FAR, DEEP}) {
            due("around " + i, x.around(i, 0), NONE);
            due("around, what " + i, x.around(0, i), NONE);
        }
    }

    private static void solutions() {
        part("promise 14: solved");
        due("solved", x.solved(1, 1, 0), 37);
        due("solved", x.solved(1, 1, 1), 6);
        due("nothing asked", x.solved(0, 0, 0), 169);
        due("nothing to solve", x.solved(0, 0, 1), 0);
        due("only x", x.solved(1, 0, 0), 13);
        due("only y", x.solved(0, 1, 5), 39);
        due("only y", x.solved(0, 12, 2), 0);
        for (int i : new int[] {-1, 13, FAR, DEEP}) {
            due("solved, first", x.solved(i, 1, 1), NONE);
            due("solved, second", x.solved(1, i, 1), NONE);
            due("solved, third", x.solved(1, 1, i), NONE);
        }
        x.field(7, 2);
        due("squares to 1", x.solved(1, 1, 1), 8);
        due("squares to 0", x.solved(1, 1, 0), 1);
        due("squares, less", x.solved(1, 6, 0), 13);
        x.field(61, 12);
        due("12-th powers", x.solved(1, 0, 1), 12 * 61);
        due("12-th powers", x.solved(1, 0, 2), 0);
        due("last", x.solved(60, 60, 60), x.solved(1, 1, 1));
    }

    private static void thePolynomial() {
        part("promise 15: polynomial");
        long[] twelve = {1, -4, 1, 1};
        for (int k = 0; k < 4; k++) due("polynomial " + k, x.polynomial(k), twelve[k]);
        for (int k : new int[] {-1, 4, FAR, DEEP}) due("polynomial " + k, x.polynomial(k), VOID);
        x.field(7, 2);
        due("x^2 + x + 2", x.polynomial(0) * 100 + x.polynomial(1) * 10 + x.polynomial(2), 211);
        due("no more", x.polynomial(3), VOID);
        x.field(61, 1);
        due("x + 1", x.polynomial(0) * 10 + x.polynomial(1), 11);
        x.field(13, 12);
        for (int k = 0; k < 13; k++) due("all roots of one but 1", x.polynomial(k), 1);
        due("13", x.polynomial(13), VOID);

        part("promise 16: roots");
        due("2", x.roots(2), 0);
        due("5", x.roots(5), 3);
        due("13", x.roots(13), 1);
        due("97", x.roots(97), 0);
        // x^3 + x^2 - 4x + 1 has the roots 2, 3, 4 of 5; of 25 those above them.
        due("25", x.roots(25), 3);
        for (int q : new int[] {DEEP, -2, -1, 0, 1, 98, 101, FAR}) due("roots " + q, x.roots(q), BAD);
        x.field(7, 2);
        due("2", x.roots(2), 2);
        due("4", x.roots(4), 2);
        due("5", x.roots(5), 0);
        due("7", x.roots(7), 1);
        x.field(61, 1);
        for (int q = 2; q < 98; q++) due("roots " + q, x.roots(q), 1);
        x.field(61, 12);
        due("61", x.roots(61), 1);
        // 47 is 10 modulo 37, a 12-th power: all twelve are there, and two of them are one.
        x.field(37, 12);
        due("47", x.roots(47), 11);
    }

    private static void placesOfShelves() {
        part("promise 17: put");
        long[] values = {0, -1, MOST, LEAST, 7};
        for (int shelf = 0; shelf < 4; shelf++) {
            for (int i = 0; i < 3; i++) {
                for (long v : values) {
                    due("put", x.put(shelf, i, v), 1);
                    due("of", x.of(shelf, i), v);
                }
                x.put(shelf, i, 10 * shelf + i);
            }
        }
        for (int shelf = 0; shelf < 4; shelf++) dueRow("all", shelf, 10 * shelf, 10 * shelf + 1, 10 * shelf + 2);
        for (int i : new int[] {-1, 3, FAR, DEEP}) due("put at " + i, x.put(0, i, 1), NONE);
        for (int i : new int[] {-1, 4, FAR, DEEP}) due("put to " + i, x.put(i, 0, 1), NONE);

        part("promise 18: of");
        setRow(2, 1, LEAST, 3);
        dueRow("of", 2, 1, LEAST, 3);
        for (int i : new int[] {-1, 3, FAR, DEEP}) due("of, place " + i, x.of(2, i), VOID);
        for (int i : new int[] {-1, 4, FAR, DEEP}) due("of, shelf " + i, x.of(i, 0), VOID);

        part("promise 19: whole");
        due("whole", x.whole(3, 5), 1);
        dueRow("5", 3, -5, -5, -5);
        due("whole", x.whole(3, DEEP), 1);
        dueRow("deep", 3, 2147483648L, 2147483648L, 2147483648L);
        due("whole", x.whole(0, FAR), 1);
        dueRow("far", 0, -2147483647L, -2147483647L, -2147483647L);
        due("whole", x.whole(0, 0), 1);
        dueRow("0", 0, 0, 0, 0);
        for (int i : new int[] {-1, 4, FAR, DEEP}) due("whole " + i, x.whole(i, 1), NONE);

        part("promise 20: period");
        setRow(1, 7, 8, 9);
        due("period 1", x.period(1, 1), 1);
        dueRow("period 1", 1, 0, 1, 0);
        due("period 0", x.period(1, 0), 1);
        dueRow("period 0", 1, 1, 0, 0);
        due("period 2", x.period(3, 2), 1);
        dueRow("period 2", 3, 0, 0, 1);
        for (int i : new int[] {-1, 3, FAR, DEEP}) due("period " + i, x.period(1, i), NONE);
        for (int i : new int[] {-1, 4, FAR, DEEP}) due("shelf " + i, x.period(i, 0), NONE);
        dueRow("stays", 1, 1, 0, 0);
    }

    private static void sums() {
        part("promise 21: add");
        setRow(0, 1, -2, 3);
        setRow(1, 10, 20, -30);
        due("add", x.add(0, 1, 2), 1);
        dueRow("add", 2, 11, 18, -27);
        dueRow("stays", 0, 1, -2, 3);
        due("add to itself", x.add(0, 0, 0), 1);
        dueRow("add to itself", 0, 2, -4, 6);
        setRow(0, MOST, LEAST, 0);
        setRow(1, LEAST, MOST, 0);
        due("add ends", x.add(0, 1, 3), 1);
        dueRow("add ends", 3, -1, -1, 0);
        setRow(1, 0, 0, 0);
        due("add nothing", x.add(0, 1, 3), 1);
        dueRow("add nothing", 3, MOST, LEAST, 0);
        setRow(1, -1, -1, 0);
        due("below", x.add(0, 1, 3), OVER);
        dueWhy("below", 4, 1);
        setRow(0, 1, 2, MOST);
        setRow(1, 1, 2, 1);
        due("above", x.add(0, 1, 1), OVER);
        dueWhy("above", 4, 2);
        dueRow("stays", 1, 1, 2, 1);
        dueRow("stays", 3, MOST, LEAST, 0);
        dueShelves("add");
        dueWhy("no change", 4, 2);

        part("promise 22: less");
        setRow(0, 1, -2, 3);
        setRow(1, 10, 20, -30);
        due("less", x.less(0, 1, 2), 1);
        dueRow("less", 2, -9, -22, 33);
        due("less to second", x.less(0, 1, 1), 1);
        dueRow("less to second", 1, -9, -22, 33);
        setRow(0, -1, LEAST, 0);
        setRow(1, LEAST, LEAST, 0);
        due("less ends", x.less(0, 1, 3), 1);
        dueRow("less ends", 3, MOST, 0, 0);
        setRow(0, 0, 0, 0);
        due("above", x.less(0, 1, 3), OVER);
        dueWhy("above", 4, 0);
        setRow(0, -9, 0, -2);
        setRow(1, 0, 0, MOST);
        due("below", x.less(0, 1, 3), OVER);
        dueWhy("below", 4, 2);
        dueRow("stays", 3, MOST, 0, 0);
        dueShelves("less");
    }

    private static void dueShelves(String call) {
        for (int i : new int[] {-1, 4, FAR, DEEP}) {
            due(call + ", first", three(call, i, 0, 1), NONE);
            due(call + ", second", three(call, 0, i, 1), NONE);
            due(call + ", third", three(call, 0, 1, i), NONE);
        }
    }

    private static int three(String call, int shelf, int other, int to) {
        if (call.equals("add")) return x.add(shelf, other, to);
        if (call.equals("less")) return x.less(shelf, other, to);
        return x.product(shelf, other, to);
    }

    private static void products() {
        part("promise 23: product");
        setRow(0, 1, 0, 0);
        setRow(1, 0, 1, 0);
        due("product", x.product(0, 1, 2), 1);
        dueRow("n0*n1", 2, 1, 2, 1);
        due("product", x.product(0, 0, 0), 1);
        dueRow("n0*n0", 0, -4, -3, -2);
        x.whole(1, 3);
        due("product", x.product(1, 0, 1), 1);
        dueRow("3 times", 1, -12, -9, -6);
        dueShelves("product");
        setRow(1, MOST, 0, 0);
        setRow(2, 1, 0, 0);
        setRow(3, 8, 8, 8);
        due("over at TIMES", x.product(1, 2, 3), OVER);
        dueWhy("over at TIMES", 2, 0);
        dueRow("stays", 3, 8, 8, 8);

        part("promise 23: product, P 3");
        // PERIOD 0 times itself is PERIOD 1; PERIOD 0 times PERIOD 1 is 1.
        x.field(3, 2);
        setRow(3, 5, 6);
        setRow(0, MOST, 0);
        setRow(1, 2, 0);
        due("over though TIMES is 0", x.product(0, 1, 3), OVER);
        dueWhy("over though TIMES is 0", 1, 0);
        setRow(0, 0, LEAST);
        setRow(1, -1, 0);
        due("least times -1", x.product(0, 1, 3), OVER);
        dueWhy("least times -1", 1, 100);
        setRow(0, -1, 0);
        setRow(1, 0, LEAST);
        due("-1 times least", x.product(0, 1, 3), OVER);
        dueWhy("-1 times least", 1, 1);
        setRow(0, LEAST, 0);
        setRow(1, 0, 1);
        due("least times TIMES", x.product(0, 1, 3), OVER);
        dueWhy("least times TIMES", 2, 1);
        setRow(0, 1, 1);
        setRow(1, MOST, MOST);
        due("sum below", x.product(0, 1, 3), OVER);
        dueWhy("sum below", 3, 100);
        setRow(0, 1, 0);
        setRow(1, MOST, -1);
        due("sum above, later", x.product(0, 1, 3), OVER);
        dueWhy("sum above, later", 3, 10001);
        dueRow("stays", 3, 5, 6);
        setRow(1, MOST, 0);
        due("fits", x.product(0, 1, 3), 1);
        dueRow("fits", 3, 0, MOST);
        setRow(0, 0, LEAST);
        setRow(1, 0, 1);
        due("least fits", x.product(0, 1, 3), 1);
        dueRow("least fits", 3, LEAST, 0);

        part("promise 23: product, many classes");
        x.field(61, 12);
        x.put(0, 11, MOST);
        x.put(1, 10, 2);
        due("over", x.product(0, 1, 2), OVER);
        dueWhy("over", 1, 1110);
    }

    private static void raising() {
        part("promise 24: raise");
        setRow(0, 1, 2, 1);
        due("3", x.raise(0, 3, 3), 1);
        dueRow("3", 3, 10, 25, 14);
        due("1", x.raise(0, 1, 2), 1);
        dueRow("1", 2, 1, 2, 1);
        due("0", x.raise(0, 0, 2), 1);
        dueRow("0", 2, -1, -1, -1);
        due("2", x.raise(0, 2, 0), 1);
        due("2", x.isWhole(0), 0);
        setRow(0, 0, 0, 0);
        due("0 to the 0", x.raise(0, 0, 1), 1);
        dueRow("0 to the 0", 1, -1, -1, -1);
        x.whole(0, 2);
        due("40", x.raise(0, 40, 1), 1);
        dueRow("40", 1, -1L << 40, -1L << 40, -1L << 40);
        for (int n : new int[] {-1, 41, FAR, DEEP}) due("raise to " + n, x.raise(0, n, 1), BAD);
        for (int i : new int[] {-1, 4, FAR, DEEP}) {
            due("raise of " + i, x.raise(i, 1, 1), NONE);
            due("raise into " + i, x.raise(1, 1, i), NONE);
            due("both wrong", x.raise(1, 41, i), NONE);
        }
        due("no trouble", x.count(1), 0);
        x.whole(0, 3);
        due("3 to the 40", x.raise(0, 40, 2), OVER);
        due("sort", x.why(0, 0), 5);

        part("promise 24: raise, over");
        x.field(3, 1);
        setRow(0, 3037000500L);
        setRow(1, 4);
        due("over", x.raise(0, 2, 1), OVER);
        dueWhy("over", 5, 1, 1, 0);
        dueRow("stays", 1, 4);
        due("raise to 1", x.raise(0, 1, 1), 1);
        setRow(0, LEAST);
        due("over at first", x.raise(0, 1, 1), OVER);
        dueWhy("over at first", 5, 0, 1, 0);
        due("not multiplied", x.raise(0, 0, 1), 1);
        x.field(3, 2);
        setRow(0, LEAST, 1);
        due("over at first", x.raise(0, 5, 1), OVER);
        dueWhy("over at first", 5, 0, 1, 0);
        setRow(0, MOST, 1);
        due("sum over", x.raise(0, 5, 1), OVER);
        dueWhy("sum over", 5, 0, 3, 100);
    }

    private static void turning() {
        part("promise 25: turn");
        setRow(0, 5, 6, 7);
        due("1", x.turn(0, 1, 1), 1);
        dueRow("1", 1, 7, 5, 6);
        due("2", x.turn(0, 2, 1), 1);
        dueRow("2", 1, 6, 7, 5);
        due("0", x.turn(0, 0, 1), 1);
        dueRow("0", 1, 5, 6, 7);
        due("-1", x.turn(0, -1, 1), 1);
        dueRow("-1", 1, 6, 7, 5);
        due("3", x.turn(0, 3, 1), 1);
        dueRow("3", 1, 5, 6, 7);
        due("far", x.turn(0, FAR, 1), 1);
        dueRow("far", 1, 7, 5, 6);
        due("deep", x.turn(0, DEEP, 1), 1);
        dueRow("deep", 1, 7, 5, 6);
        due("into itself", x.turn(0, 1, 0), 1);
        dueRow("into itself", 0, 7, 5, 6);
        for (int i : new int[] {-1, 4, FAR, DEEP}) {
            due("turn of " + i, x.turn(i, 1, 0), NONE);
            due("turn into " + i, x.turn(0, 1, i), NONE);
        }
        x.field(13, 1);
        setRow(0, 9);
        due("one class", x.turn(0, 7, 1), 1);
        dueRow("one class", 1, 9);
    }

    private static void norms() {
        part("promise 26: norm");
        x.whole(1, 5);
        due("of 5", x.norm(1), 125);
        x.whole(1, -5);
        due("of -5", x.norm(1), -125);
        x.period(1, 2);
        due("of a period", x.norm(1), -1);
        setRow(1, 0, 0, 0);
        due("of 0", x.norm(1), 0);
        setRow(1, 1, 2, 1);
        due("of n0*n1", x.norm(1), 1);
        dueRow("stays", 1, 1, 2, 1);
        for (int i : new int[] {-1, 4, FAR, DEEP}) due("norm " + i, x.norm(i), VOID);
        due("no trouble", x.count(1), 0);
        setRow(0, MOST, 2, 1);
        due("over", x.norm(0), VOID);
        dueWhy("over", 5, 0, 2, 0);
        x.field(7, 2);
        x.period(0, 0);
        due("of a period", x.norm(0), 2);
        setRow(0, 1L << 31, 0);
        due("over at last", x.norm(0), VOID);
        dueWhy("over at last", 4, 2);
        setRow(0, 3037000500L, 0);
        due("over on the way", x.norm(0), VOID);
        dueWhy("over on the way", 5, 1, 1, 1);
        x.field(3, 1);
        setRow(0, MOST);
        due("one class", x.norm(0), -MOST);
        x.field(3, 2);
        setRow(0, 3, 1);
        due("of 3 and 1", x.norm(0), 7);
    }

    private static void traces() {
        part("promise 27: trace");
        setRow(0, 5, -7, 9);
        due("trace", x.trace(0), -7);
        setRow(0, MOST, LEAST, 1);
        due("0 at last", x.trace(0), 0);
        setRow(0, MOST, 0, 0);
        due("most", x.trace(0), -MOST);
        setRow(0, -MOST, 0, 0);
        due("most turned about", x.trace(0), MOST);
        x.field(61, 12);
        x.whole(0, 3);
        due("twelve", x.trace(0), 36);
        x.field(13, 3);
        for (int i : new int[] {-1, 4, FAR, DEEP}) due("trace " + i, x.trace(i), VOID);
        due("no trouble", x.count(1), 0);
        setRow(0, 0, LEAST, 0);
        due("over at last", x.trace(0), VOID);
        dueWhy("over at last", 4, 3);
        setRow(0, MOST, 1, -5);
        due("over above", x.trace(0), VOID);
        dueWhy("over above", 4, 1);
        setRow(0, LEAST, 5, -6);
        due("over below", x.trace(0), VOID);
        dueWhy("over below", 4, 2);
        x.field(13, 12);
        x.put(0, 10, MOST);
        x.put(0, 11, MOST);
        due("over", x.trace(0), VOID);
        dueWhy("over", 4, 11);
    }

    private static void wholeAndAlike() {
        part("promise 28: isWhole");
        due("0", x.isWhole(0), 1);
        setRow(0, LEAST, LEAST, LEAST);
        due("least", x.isWhole(0), 1);
        setRow(0, 4, 4, 5);
        due("last differs", x.isWhole(0), 0);
        setRow(0, 4, 5, 5);
        due("first differs", x.isWhole(0), 0);
        setRow(0, 5, 4, 5);
        due("middle differs", x.isWhole(0), 0);
        for (int i : new int[] {-1, 4, FAR, DEEP}) due("isWhole " + i, x.isWhole(i), NONE);
        x.field(13, 1);
        setRow(0, 9);
        due("one class", x.isWhole(0), 1);

        part("promise 29: alike");
        setRow(0, 5, 6, 7);
        setRow(1, 7, 5, 6);
        setRow(2, 6, 7, 5);
        setRow(3, 5, 7, 6);
        due("itself", x.alike(0, 0), 0);
        due("1", x.alike(0, 1), 1);
        due("2", x.alike(0, 2), 2);
        due("back", x.alike(1, 0), 2);
        due("not", x.alike(0, 3), NOT);
        for (int i = 0; i < 3; i++) {
            setRow(3, 5, 6, 7);
            x.put(3, i, 4);
            due("one differs", x.alike(0, 3), NOT);
            due("one differs", x.alike(3, 0), NOT);
        }
        setRow(0, 5, 5, 5);
        due("least", x.alike(0, 0), 0);
        for (int i : new int[] {-1, 4, FAR, DEEP}) {
            due("alike of " + i, x.alike(i, 0), NONE);
            due("alike and " + i, x.alike(0, i), NONE);
        }
        x.field(7, 6);
        setRow(0, 1, 2, 1, 2, 1, 2);
        setRow(1, 2, 1, 2, 1, 2, 1);
        due("least of three", x.alike(0, 1), 1);
    }

    private static void theWhy() {
        part("promise 30: why");
        due("none yet", x.why(0, 0), NOT);
        due("none yet", x.why(FAR, 1), NOT);
        due("below", x.why(-1, 0), NONE);
        due("what", x.why(0, 2), NONE);
        due("what", x.why(0, -1), NONE);
        due("both", x.why(5, 2), NONE);
        dueFault(4, "((1+)", 0, 1);
        due("deep", x.why(DEEP, 1), NONE);
        due("far", x.why(FAR, 1), NOT);
        due("3", x.why(3, 1), NOT);
        // What goes well changes nothing of it.
        dueText(1, "(1+n0)*2");
        due("image", x.image(), 13);
        due("field", x.field(7, 2), 13);
        due("undo", x.undo(), 13);
        due("wrong", x.add(0, 0, 4), NONE);
        dueWhy("stays", 6, 0, 6, 1, 7, 4);
        dueFault(0, "");
        setRow(0, MOST, 0, 0);
        due("over", x.add(0, 0, 0), OVER);
        dueWhy("over", 4, 0);
        dueFault(1, "7x");
    }

    private static void theTape() {
        part("promise 31: feed");
        for (int letter : new int[] {DEEP, -1, 0, 31, 127, 128, 256 + 'n', FAR}) due("feed " + letter, x.feed(letter), BAD);
        due("none", x.count(0), 0);
        for (int i = 1; i <= 80; i++) due("feed", x.feed(i % 2 == 0 ? 32 : 126), i);
        due("full", x.feed('n'), FULL);
        due("bad and full", x.feed(127), BAD);
        due("80", x.count(0), 80);
        due("stays", x.feed(' '), FULL);

        part("promise 32: wipe");
        due("empty", x.wipe(), 0);
        x.feed('n');
        x.feed('0');
        due("two", x.wipe(), 2);
        due("none", x.count(0), 0);
        dueText(1, "12");
        dueRow("only what came behind it", 0, -12, -12, -12);
        for (int i = 0; i < 80; i++) x.feed('1');
        due("80", x.wipe(), 80);
        due("feed", x.feed('1'), 1);
        due("no trouble", x.count(1), 0);
    }

    private static void texts() {
        part("promise 33: read");
        feedText("n0*n1");
        for (int i : new int[] {-1, 4, FAR, DEEP}) due("read " + i, x.read(i), NONE);
        due("tape stays", x.count(0), 5);
        due("read", x.read(3), 1);
        dueRow("n0*n1", 3, 1, 2, 1);
        dueRow("others stay", 0, 0, 0, 0);
        due("tape", x.count(0), 0);
        String[] good = {"0", "7", "00", "007", "999", "n0", "n2", "n00", "n02", "1-2-3", "1-(2-3)", "2+3*4", "(2+3)*4", "2*3+4*5",
            "(((((7)))))", "((1)+(2))*((3))", "(1)", "n1-n1", "n0+n1+n2", "2*n1*3-n0"};
        long[][] rows = {{0, 0, 0}, {-7, -7, -7}, {0, 0, 0}, {-7, -7, -7}, {-999, -999, -999}, {1, 0, 0}, {0, 0, 1}, {1, 0, 0}, {0, 0, 1},
            {4, 4, 4}, {-2, -2, -2}, {-14, -14, -14}, {-20, -20, -20}, {-26, -26, -26},
            {-7, -7, -7}, {-9, -9, -9}, {-1, -1, -1}, {0, 0, 0}, {1, 1, 1}, {-1, 6, 0}};
        for (int i = 0; i < good.length; i++) {
            dueText(1, good[i]);
            dueRow(good[i], 0, rows[i]);
        }
        due("no trouble", x.count(1), 0);
        StringBuilder longest = new StringBuilder("10");
        while (longest.length() < 80) longest.append("*1");
        dueText(1, longest.toString());
        dueRow(longest.toString(), 0, -10, -10, -10);
        x.field(13, 12);
        dueText(1, "n11+n0-n9");
        dueRow("n11+n0-n9", 0, 1, 0, 0, 0, 0, 0, 0, 0, 0, -1, 0, 1);
        dueText(1, "n1");
        dueRow("n1", 0, 0, 1, 0, 0, 0, 0, 0, 0, 0, 0, 0, 0);
    }

    private static void faults() {
        part("promise 33: faults");
        dueFault(0, "");
        dueFault(0, " ");
        dueFault(0, "N0");
        dueFault(0, "-1");
        dueFault(0, "+1");
        dueFault(0, "*1");
        dueFault(0, ")");
        dueFault(1, "1 ");
        dueFault(1, "1n");
        dueFault(1, "1(");
        dueFault(1, "1)");
        dueFault(1, "n");
        dueFault(1, "n+");
        dueFault(1, "n(");
        dueFault(1, "n3");
        dueFault(1, "n9+");
        dueFault(2, "n03");
        dueFault(2, "n30");
        dueFault(2, "n12");
        dueFault(2, "n123");
        dueFault(2, "n99999");
        dueFault(3, "n000");
        dueFault(3, "n021");
        dueFault(2, "n0n1");
        dueFault(3, "1000");
        dueFault(3, "0000");
        dueFault(2, "1+");
        dueFault(2, "1-");
        dueFault(2, "1*");
        dueFault(2, "1++1");
        dueFault(2, "1*-1");
        dueFault(3, "n0+");
        dueFault(3, "1+n");
        dueFault(3, "1+2)");
        dueFault(3, "(1)1");
        dueFault(3, "(1)(2)");
        dueFault(3, "(1))");
        dueFault(1, "(", 0);
        dueFault(1, "()", 0);
        dueFault(2, "(1", 0);
        dueFault(2, "(1x)", 0);
        dueFault(2, "(1(2))", 0);
        dueFault(2, "(n3)", 0);
        dueFault(3, "(n30)", 0);
        dueFault(6, "(1)*(2", 4);
        dueFault(9, "((1)+(2)*", 0);
        dueFault(8, "(1+(2+(3", 0, 3, 6);
        dueFault(10, "(1+(2+(3))", 0);
        dueFault(5, "((((((1))))))", 0, 1, 2, 3, 4);
        dueFault(9, "((((1+2*((1", 0, 1, 2, 3, 8);
        dueFault(5, "(((((", 0, 1, 2, 3, 4);
        // Brackets that are closed count no longer.
        dueFault(17, "(((((1)))))+(((((", 12, 13, 14, 15, 16);
    }

    private static void overInTexts() {
        part("promise 33: over");
        x.field(3, 1);
        dueText(1, V);
        dueRow("V", 0, -V9);
        x.put(0, 0, 7);
        dueOver(V + "*9", 1, 0);
        dueOver(V + "+" + V, 4, 0);
        dueOver("0-" + V + "-" + V, 4, 0);
        dueOver("(" + V + "+" + V + ")", 6, 0, 4, 0);
        dueOver("1+((" + V + "+" + V + "))", 6, 2, 6, 3, 4, 0);
        dueOver("(" + V + ")*(9)", 1, 0);
        dueOver("((" + V + ")*(9))", 6, 0, 1, 0);
        dueOver("(1)*(2*(" + V + ")*9)", 6, 4, 1, 0);
        // Whichever comes first.
        dueOver(V + "*9x", 1, 0);
        dueOver("999*" + V + "9", 1, 0);
        dueOver(V + "*n0*9*", 1, 0);
        dueOver(V + "+" + V + ")", 4, 0);
        dueOver("(" + V + "+" + V, 6, 0, 4, 0);
        dueFault(26, V + "*x");
        dueFault(27, V + "*n1");
        dueFault(28, V + "*(9", 26);
        dueFault(52, V + "+" + V + "*");
        dueFault(26, V + "*");
    }

    private static void dueOver(String text, int... pairs) {
        dueText(OVER, text);
        due("shelf behind " + text, x.of(0, 0), 7);
        dueWhy(text, pairs);
    }

    private static void lists() {
        part("promise 34: list");
        due("15", x.list(2, 15), 1);
        due("last", x.get(2, 14), 0);
        due("0", x.list(1, 0), 1);
        due("-1", x.list(0, -1), 1);
        due("three lists", x.count(2), 2);
        x.lay(2, 14, 9);
        x.lay(2, 3, 8);
        due("all 0 again", x.list(2, 15), 1);
        due("all 0 again", x.get(2, 14) + x.get(2, 3), 0);
        for (int i = 0; i < 15; i++) x.lay(2, i, 7);
        x.list(2, 15);
        for (int i = 0; i < 15; i++) due("each 0 again", x.get(2, i), 0);
        due("missing again", x.list(2, -1), 1);
        due("missing again", x.get(2, 0), VOID);
        due("missing already", x.list(2, -1), 1);
        for (int i : new int[] {-1, 3, FAR, DEEP}) {
            due("list " + i, x.list(i, 1), NONE);
            due("both wrong", x.list(i, 16), NONE);
        }
        for (int n : new int[] {16, 17, FAR}) due("list of " + n, x.list(1, n), BAD);
        for (int n : new int[] {-2, -3, DEEP}) due("list of " + n, x.list(1, n), BELOW);
        due("stays", x.lay(1, 0, 1), PLACE);

        part("promise 35: lay");
        x.list(0, 2);
        due("lay", x.lay(0, 0, LEAST), 1);
        due("lay", x.lay(0, 1, MOST), 1);
        due("get", x.get(0, 0), LEAST);
        due("get", x.get(0, 1), MOST);
        for (int i : new int[] {-1, 2, FAR, DEEP}) {
            due("place " + i, x.lay(0, i, 1), PLACE);
            due("missing, place " + i, x.lay(1, i, 1), MISSING);
        }
        for (int i : new int[] {-1, 3, FAR, DEEP}) due("lay on " + i, x.lay(i, 9, 1), NONE);
        due("stays", x.get(0, 0), LEAST);

        part("promise 36: get");
        x.list(1, 3);
        x.lay(1, 2, 77);
        due("get", x.get(1, 2), 77);
        due("get", x.get(1, 1), 0);
        for (int i : new int[] {-1, 3, 14, 15, FAR, DEEP}) due("place " + i, x.get(1, i), VOID);
        for (int i : new int[] {-1, 3, FAR, DEEP}) due("list " + i, x.get(i, 0), VOID);
        due("missing", x.get(0, 0), VOID);
        due("missing", x.get(2, -1), VOID);

        part("promise 37: film");
        setRow(1, 4, LEAST, 6);
        x.list(0, 15);
        due("film", x.film(0, 1), 3);
        due("0", x.get(0, 0), 4);
        due("1", x.get(0, 1), LEAST);
        due("2", x.get(0, 2), 6);
        due("3", x.get(0, 3), VOID);
        due("lay", x.lay(0, 3, 1), PLACE);
        due("film of a missing one", x.film(2, 1), 3);
        due("2", x.get(2, 2), 6);
        setRow(1, 0, 0, 0);
        due("its own", x.get(2, 2), 6);
        x.lay(2, 0, 5);
        due("its own", x.of(1, 0), 0);
        for (int i : new int[] {-1, 3, FAR, DEEP}) due("film to " + i, x.film(i, 1), NONE);
        for (int i : new int[] {-1, 4, FAR, DEEP}) due("film of " + i, x.film(0, i), NONE);
        x.field(61, 12);
        due("twelve", x.film(1, 3), 12);
        due("all 0 behind a film", x.list(1, 15), 1);
        due("list of 15", x.get(1, 13), 0);
    }

    private static void judging() {
        part("promise 38: judge");
        layList(0, 1, 2, 1);
        due("none", x.judge(0, 1), NOT);
        due("first", x.judge(0, 0), 0);
        due("first", x.judge(0, 2), 0);
        layList(0, 0, 1, 3);
        due("last", x.judge(0, 0), 2);
        layList(0, 0, 1);
        due("shorter", x.judge(0, 0), 102);
        due("shorter, other", x.judge(0, 1), 0);
        layList(0, 2, 1, 1, 0);
        due("longer", x.judge(0, 2), 3);
        layList(0, 2, 0, 1, 0);
        due("longer, other", x.judge(0, 2), 1);
        layList(0, (1L << 32) + 2, 1, 1);
        due("a long", x.judge(0, 2), 0);
        layList(0);
        due("empty", x.judge(0, 2), 100);
        due("missing", x.judge(1, 2), MISSING);
        for (int i : new int[] {-1, 3, FAR, DEEP}) {
            due("class " + i, x.judge(0, i), NONE);
            due("list " + i, x.judge(i, 0), NONE);
            due("missing, class " + i, x.judge(1, i), NONE);
        }
        x.field(13, 12);
        layList(0, 0, 1, 0, 0, 0, 0, 0, 0, 0, 0, 0, 0, 0, 0, 0);
        due("longest", x.judge(0, 0), 12);
        layList(0, 0, 1, 0, 0, 0, 0, 0, 0, 0, 0, 0, 0);
        due("all twelve", x.judge(0, 0), NOT);
        x.field(13, 1);
        layList(0, 11);
        due("one", x.judge(0, 0), NOT);
    }

    private static void layList(int list, long... values) {
        due("list", x.list(list, values.length), 1);
        for (int i = 0; i < values.length; i++) due("lay", x.lay(list, i, values[i]), 1);
    }

    private static void theImage() {
        part("promises 39, 40: image, undo");
        due("none", x.undo(), STATE);
        due("use", x.use(6), 2);
        for (int shelf = 0; shelf < 4; shelf++) setRow(shelf, shelf, 10, LEAST);
        layList(0, 5);
        x.feed('n');
        due("image", x.image(), 13);
        due("field", x.field(61, 12), 13);
        x.whole(0, 3);
        layList(0, 6, 7);
        layList(1, 8);
        x.feed('0');
        setRow(1, MOST);
        due("over", x.add(1, 1, 1), OVER);
        due("undo", x.undo(), 13);
        due("told", x.told(0), 13);
        due("told", x.told(1), 3);
        due("told", x.told(2), 4);
        due("told", x.told(3), 6);
        due("told", x.told(4), 4);
        due("power", x.power(6), 1);
        due("beside", x.beside(0, 1), 2);
        due("polynomial", x.polynomial(1), -4);
        due("solved", x.solved(1, 1, 0), 37);
        for (int shelf = 0; shelf < 4; shelf++) dueRow("back", shelf, shelf, 10, LEAST);
        due("lists stay", x.get(0, 1), 7);
        due("lists stay", x.get(1, 0), 8);
        due("tape stays", x.count(0), 2);
        dueWhy("why stays", 4, 0);
        x.whole(0, 9);
        due("use", x.use(2), 6);
        due("once more", x.undo(), 13);
        due("once more", x.told(3), 6);
        dueRow("once more", 0, 0, 10, LEAST);
        due("field", x.field(5, 4), 13);
        due("another image", x.image(), 5);
        setRow(2, 1, 2, 3, 4);
        due("undo", x.undo(), 5);
        dueRow("another image", 2, 0, 0, 0, 0);
        due("told", x.told(1), 4);
    }

    private static void counts() {
        part("promise 41: count");
        x.feed('(');
        x.feed('(');
        due("bytes", x.count(0), 2);
        x.read(0);
        due("bytes", x.count(0), 0);
        due("troubles", x.count(1), 3);
        x.list(0, 0);
        due("lists", x.count(2), 1);
        x.list(1, 4);
        x.film(2, 0);
        due("lists", x.count(2), 3);
        x.list(1, -1);
        due("lists", x.count(2), 2);
        x.put(0, 2, LEAST);
        due("shelves", x.count(3), 1);
        x.put(3, 0, 1);
        x.period(2, 1);
        x.whole(1, 4);
        due("shelves", x.count(3), 4);
        x.whole(2, 0);
        due("shelves", x.count(3), 3);
        x.whole(2, 7);
        setRow(2, 0, 0, 0);
        due("shelves", x.count(3), 3);
        for (int i = 0; i < 3; i++) {
            x.put(2, i, 1);
            due("one place", x.count(3), 4);
            x.put(2, i, 0);
        }
        for (int what : new int[] {-1, 4, FAR, DEEP}) due("count " + what, x.count(what), NONE);
    }
}
