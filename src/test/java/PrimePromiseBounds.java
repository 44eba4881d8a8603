/** The boundaries that the promises 1 to 16 name: the prime, classes, the polynomial. */
final class PrimePromiseBounds extends Bounds {
    static void all() {
        newObject();
        field();
        told();
        generatorAndUse();
        powerAndClass();
        member();
        besideMeetsTimes();
        oppositeAround();
        solved();
        polynomial();
    }

    private static void newObject() {
        sentence("Promise 1", "P is 13, E is 3; all NUMBERS are 0.");
        PowerClasses x = new PowerClasses();
        due("P", x.told(0), 13);
        due("E", x.told(1), 3);
        for (int shelf = 0; shelf < 4; shelf++) dueRow("NUMBERS", x, shelf, 0, 0, 0);
        for (int shelf = 0; shelf < 4; shelf++) due("whole", x.isWhole(shelf), 1);
        due("SHELVES that are not 0", x.count(3), 0);
        due("no LISTS", x.count(2), 0);
        due("THE TAPE", x.count(0), 0);
        due("WHY", x.count(1), 0);
        due("no IMAGE", x.undo(), STATE);
        PowerClasses other = new PowerClasses();
        x.field(61, 12);
        x.put(0, 11, 7);
        due("objects are of their own", other.told(0), 13);
        due("objects are of their own", other.of(0, 0), 0);
    }

    private static void field() {
        sentence("Promise 2", "P, E become p, e, G the least GENERATOR, SHELVES 0: P as it was.");
        PowerClasses x = ready();
        x.use(11);
        due("the least", x.field(3, 1), 13);
        dueField(x, 3, 1, 2);
        due("E alone", x.field(3, 2), 3);
        dueField(x, 3, 2, 2);
        due("the greatest", x.field(61, 12), 3);
        dueField(x, 61, 12, 2);
        x.put(3, 11, 5);
        x.use(59);
        due("the same once more", x.field(61, 12), 61);
        dueField(x, 61, 12, 2);
        due("E alone", x.field(61, 1), 61);
        dueField(x, 61, 1, 2);
        due("G is not 2", x.field(41, 10), 61);
        dueField(x, 41, 10, 6);
        x = ready();
        x.field(7, 6);
        due("LISTS stay", x.get(0, 14), 514);
        due("LISTS stay", x.get(1, 2), 1102);
        due("LISTS stay", x.count(2), 2);
        due("THE TAPE stays", x.count(0), 6);
        dueWhy("WHY stays", x, 6, 0, 6, 1, 7, 4);
        due("THE IMAGE stays", x.undo(), 13);
        dueRow("THE IMAGE stays", x, 3, 301, 302, 303);
        due("THE IMAGE stays", x.told(3), 11);
        due("THE TAPE's bytes stay", x.read(0), 1);
        dueRow("THE TAPE's bytes stay", x, 0, 9, 7, 7);

        sentence("Promise 2", "BAD: p; STATE: e does not divide p less 1, is not 1 .. 12.");
        for (int p : new int[] {DEEP, -13, -3, -1, 0, 1, 2, 4, 9, 12, 15, 25, 27, 35, 49, 51, 55, 57, 60, 62, 63, 65, 67, 71, FAR}) refused("p " + p, x1 -> x1.field(p, 1), BAD);
        for (int e : new int[] {DEEP, -12, -3, -1, 0, 5, 7, 8, 9, 10, 11, 13, 24, FAR}) refused("e " + e, x1 -> x1.field(13, e), STATE);
        refused("13 divides 52", x1 -> x1.field(53, 13), STATE);
        refused("14 divides 28", x1 -> x1.field(29, 14), STATE);
        refused("15 divides 60", x1 -> x1.field(61, 15), STATE);
        refused("60 divides 60", x1 -> x1.field(61, 60), STATE);
        refused("3 is P itself", x1 -> x1.field(3, 3), STATE);
        refused("both: p first", x1 -> x1.field(63, 13), BAD);
        due("12 divides 60", new PowerClasses().field(61, 12), 13);
        due("11 divides 22", new PowerClasses().field(23, 11), 13);
        due("2 divides 2", new PowerClasses().field(3, 2), 13);
    }

    private static void dueField(PowerClasses x, int p, int e, int g) {
        due("P", x.told(0), p);
        due("E", x.told(1), e);
        due("G", x.told(3), g);
        for (int shelf = 0; shelf < 4; shelf++) dueRow("SHELVES", x, shelf, new long[e]);
        due("SHELVES", x.count(3), 0);
    }

    private static void told() {
        sentence("Promise 3", "0 P, 1 E, 2 F, 3 G, 4 how many GENERATORS. NONE.");
        int[][] fields = {{13, 3, 4, 2, 4}, {3, 2, 1, 2, 1}, {61, 12, 5, 2, 16}, {61, 1, 60, 2, 16}, {59, 2, 29, 2, 28}, {41, 8, 5, 6, 16}};
        for (int[] one : fields) {
            at(one[0], one[1]);
            for (int what = 0; what < 5; what++) {
                int asked = what;
                still("told " + what, x -> x.told(asked), one[what]);
            }
            for (int what : new int[] {-1, 5, 6, FAR, DEEP}) refused("told " + what, x -> x.told(what), NONE);
        }
    }

    private static void generatorAndUse() {
        sentence("Promise 4", "The i-th GENERATOR, rising, from 0. NONE.");
        still("the first", x -> x.generator(0), 2);
        still("the last", x -> x.generator(3), 11);
        for (int i : new int[] {-1, 4, 5, FAR, DEEP}) refused("generator " + i, x -> x.generator(i), NONE);
        at(3, 1);
        still("the only one", x -> x.generator(0), 2);
        refused("behind it", x -> x.generator(1), NONE);
        at(59, 2);
        still("the last of 28", x -> x.generator(27), 56);
        refused("behind it", x -> x.generator(28), NONE);
        at(61, 12);
        still("the last of 16", x -> x.generator(15), 59);
        refused("behind it", x -> x.generator(16), NONE);

        sentence("Promise 5", "G becomes another GENERATOR (SHELVES stay rows as they are): what it was.");
        changes("another", x -> x.use(11), 2, "told 3", "power", "beside", "times");
        changes("the same", x -> x.use(2), 2);
        PowerClasses y = ready();
        due("use", y.use(7), 2);
        due("use", y.use(6), 7);
        due("use", y.use(11), 6);
        due("G", y.told(3), 11);
        due("power of G", y.power(11), 1);
        due("class of G", y.classOf(11), 1);
        for (int shelf = 0; shelf < 4; shelf++) dueRow("SHELVES", y, shelf, 1000 + 100 * shelf, 1001 + 100 * shelf, 1002 + 100 * shelf);
        // 2 is 11 to the 7-th: CLASS 1 again; 2 is 7 to the 11-th: CLASS 2.
        due("class of 2", y.classOf(2), 1);
        y.use(7);
        due("class of 2", y.classOf(2), 2);
        due("beside", y.beside(1, 1), 1);
        due("times", y.times(0, 0, 1), 998);
        at(3, 2);
        changes("the only one", x -> x.use(2), 2);

        sentence("Promise 5", "BAD: it is none.");
        at(13, 3);
        for (int g : new int[] {DEEP, -11, -2, -1, 0, 1, 3, 4, 5, 8, 9, 10, 12, 13, 14, 15, 19, 24, FAR}) refused("use " + g, x -> x.use(g), BAD);
        at(61, 12);
        for (int g : new int[] {0, 1, 3, 4, 60, 61, 62, 63, 120}) refused("use " + g, x -> x.use(g), BAD);
        at(3, 1);
        for (int g : new int[] {0, 1, 3, 5}) refused("use " + g, x -> x.use(g), BAD);
    }

    private static void powerAndClass() {
        int[][] ends = {{3, 1}, {3, 2}, {13, 3}, {13, 12}, {61, 1}, {61, 12}};
        sentence("Promise 6", "POWER. NONE: x.");
        for (int[] field : ends) {
            int p = field[0];
            at(p, field[1]);
            still("power of 1", x -> x.power(1), 0);
            still("power of P less 1", x -> x.power(p - 1), (p - 1) / 2);
            for (int no : new int[] {-p, -1, 0, p, p + 1, FAR, DEEP}) refused("power of " + no, x -> x.power(no), NONE);
        }
        sentence("Promise 7", "CLASS. NONE: x.");
        for (int[] field : ends) {
            int p = field[0], e = field[1];
            at(p, e);
            still("class of 1", x -> x.classOf(1), 0);
            still("class of P less 1", x -> x.classOf(p - 1), (p - 1) / 2 % e);
            for (int no : new int[] {-p, -1, 0, p, p + 1, FAR, DEEP}) refused("class of " + no, x -> x.classOf(no), NONE);
        }
    }

    private static void member() {
        sentence("Promise 8", "The k-th number of a CLASS, rising, from 0. NONE: i, k.");
        int[][] members = {{1, 5, 8, 12}, {2, 3, 10, 11}, {4, 6, 7, 9}};
        for (int i = 0; i < 3; i++) {
            int of = i;
            for (int k = 0; k < 4; k++) {
                int place = k;
                still("member " + i + " " + k, x -> x.member(of, place), members[i][k]);
            }
            for (int k : new int[] {-1, 4, FAR, DEEP}) refused("place " + k, x -> x.member(of, k), NONE);
        }
        for (int i : NO_CLASSES) refused("class " + i, x -> x.member(i, 0), NONE);
        at(61, 1);
        still("the first", x -> x.member(0, 0), 1);
        still("the last", x -> x.member(0, 59), 60);
        refused("behind it", x -> x.member(0, 60), NONE);
        refused("behind the CLASS", x -> x.member(1, 0), NONE);
        at(13, 12);
        still("the only one", x -> x.member(11, 0), 7);
        refused("behind it", x -> x.member(11, 1), NONE);
        refused("behind the CLASS", x -> x.member(12, 0), NONE);
    }

    private static void besideMeetsTimes() {
        sentence("Promise 9", "BESIDE. NONE.");
        int[][] beside = {{0, 1, 2}, {1, 2, 1}, {2, 1, 1}};
        for (int at = 0; at < 9; at++) {
            int i = at / 3, j = at % 3;
            still("beside", x -> x.beside(i, j), beside[i][j]);
        }
        for (int no : NO_CLASSES) {
            refused("i " + no, x -> x.beside(no, 2), NONE);
            refused("j " + no, x -> x.beside(2, no), NONE);
        }
        at(61, 12);
        refused("i 12", x -> x.beside(12, 11), NONE);
        refused("j 12", x -> x.beside(11, 12), NONE);
        at(3, 1);
        still("the only one", x -> x.beside(0, 0), 1);
        refused("i 1", x -> x.beside(1, 0), NONE);
        refused("j 1", x -> x.beside(0, 1), NONE);

        sentence("Promise 10", "MEETS. NONE.");
        still("the first", x -> x.meets(0, 0, 0), 0);
        still("the last", x -> x.meets(2, 2, 2), 0);
        still("the last but j", x -> x.meets(2, 1, 2), 2);
        for (int no : NO_CLASSES) {
            refused("i " + no, x -> x.meets(no, 2, 2), NONE);
            refused("j " + no, x -> x.meets(2, no, 2), NONE);
            refused("h " + no, x -> x.meets(2, 2, no), NONE);
        }
        at(61, 12);
        refused("i 12", x -> x.meets(12, 0, 0), NONE);
        refused("j 12", x -> x.meets(0, 12, 0), NONE);
        refused("h 12", x -> x.meets(0, 0, 12), NONE);
        at(61, 1);
        still("the only one", x -> x.meets(0, 0, 0), 59);

        sentence("Promise 11", "TIMES; 1000 and it. NONE.");
        still("below 1000", x -> x.times(0, 0, 0), 996);
        still("above 1000", x -> x.times(2, 1, 2), 1002);
        for (int no : NO_CLASSES) {
            refused("i " + no, x -> x.times(no, 2, 2), NONE);
            refused("j " + no, x -> x.times(2, no, 2), NONE);
            refused("h " + no, x -> x.times(2, 2, no), NONE);
        }
        at(13, 12);
        still("1000 itself", x -> x.times(0, 0, 0), 1000);
        refused("i 12", x -> x.times(12, 0, 0), NONE);
        refused("j 12", x -> x.times(0, 12, 0), NONE);
        refused("h 12", x -> x.times(0, 0, 12), NONE);
        at(61, 2);
        // 30 numbers a CLASS, 14 pairs: the least there is.
        still("the least", x -> x.times(0, 0, 0), 1000 + 14 - 30);
    }

    private static void oppositeAround() {
        sentence("Promise 12", "OPPOSITE. NONE.");
        for (int i = 0; i < 3; i++) {
            int of = i;
            still("opposite " + i, x -> x.opposite(of), i);
        }
        for (int no : NO_CLASSES) refused("i " + no, x -> x.opposite(no), NONE);
        at(13, 12);
        still("the last", x -> x.opposite(11), 5);
        refused("behind it", x -> x.opposite(12), NONE);
        at(3, 1);
        still("the only one", x -> x.opposite(0), 0);
        refused("behind it", x -> x.opposite(1), NONE);

        sentence("Promise 13", "BESIDE of i and all j together (what 0), of all j and i together (1). NONE.");
        at(7, 2);
        int[][] around = {{3, 2}, {2, 3}};
        for (int at = 0; at < 4; at++) {
            int i = at / 2, what = at % 2;
            still("around " + i + " " + what, x -> x.around(i, what), around[i][what]);
        }
        for (int no : new int[] {-1, 2, FAR, DEEP}) {
            refused("i " + no, x -> x.around(no, 0), NONE);
            refused("i " + no, x -> x.around(no, 1), NONE);
            refused("what " + no, x -> x.around(0, no), NONE);
            refused("both " + no, x -> x.around(no, no), NONE);
        }
        at(61, 12);
        still("of P less 1", x -> x.around(6, 0), 4);
        still("of 1", x -> x.around(0, 1), 4);
        still("the last", x -> x.around(11, 0), 5);
        still("the last", x -> x.around(11, 1), 5);
        refused("behind it", x -> x.around(12, 0), NONE);
    }

    private static void solved() {
        sentence("Promise 14", "SOLVED. NONE.");
        still("0", x -> x.solved(0, 0, 0), 169);
        still("P less 1", x -> x.solved(12, 12, 12), 6);
        for (int no : new int[] {-13, -12, -1, 13, 14, 26, FAR, DEEP}) {
            refused("a " + no, x -> x.solved(no, 1, 1), NONE);
            refused("b " + no, x -> x.solved(1, no, 1), NONE);
            refused("c " + no, x -> x.solved(1, 1, no), NONE);
        }
        at(61, 12);
        still("P less 1", x -> x.solved(60, 0, 60), 732);
        refused("P", x -> x.solved(61, 0, 0), NONE);
        refused("P", x -> x.solved(0, 61, 0), NONE);
        refused("P", x -> x.solved(0, 0, 61), NONE);
    }

    private static void polynomial() {
        sentence("Promise 15", "The number of POLYNOMIAL at x to the k-th. VOID: k below 0, above E.");
        still("at 0", x -> x.polynomial(0), 1);
        still("at E", x -> x.polynomial(3), 1);
        for (int k : new int[] {-1, 4, 12, 13, FAR, DEEP}) refused("at " + k, x -> x.polynomial(k), VOID);
        at(61, 12);
        still("at 0", x -> x.polynomial(0), 1179);
        still("at E", x -> x.polynomial(12), 1);
        refused("above E", x -> x.polynomial(13), VOID);
        at(3, 1);
        still("at E", x -> x.polynomial(1), 1);
        refused("above E", x -> x.polynomial(2), VOID);
        PowerClasses y = new PowerClasses();
        y.field(61, 12);
        y.field(7, 2);
        due("above E, behind a greater E", y.polynomial(3), VOID);
        due("at 0, behind a greater E", y.polynomial(0), 2);

        sentence("Promise 16", "ROOTS. BAD.");
        still("by 2", x -> x.roots(2), 0);
        still("by 97", x -> x.roots(97), 0);
        still("by 5", x -> x.roots(5), 3);
        for (int q : new int[] {DEEP, -97, -5, -2, -1, 0, 1, 98, 100, 101, FAR}) refused("by " + q, x -> x.roots(q), BAD);
        at(61, 12);
        still("by 97", x -> x.roots(97), 0);
        still("by 61, P itself", x -> x.roots(61), 1);
        refused("by 98", x -> x.roots(98), BAD);
        refused("by 1", x -> x.roots(1), BAD);
    }
}
