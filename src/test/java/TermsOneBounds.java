import java.util.ArrayList;
import java.util.List;

/** The boundaries that 'What it is' and the first part of 'Terms' name, sentence by sentence. */
final class TermsOneBounds extends Bounds {
    private static final int[] PRIMES = {3, 5, 7, 11, 13, 17, 19, 23, 29, 31, 37, 41, 43, 47, 53, 59, 61};
    private static final int[] LEAST_GENERATORS = {2, 2, 3, 2, 2, 3, 2, 5, 2, 3, 2, 6, 3, 5, 2, 2, 2};

    static void all() {
        whatItIs();
        prime();
        generators();
        powers();
        classes();
        neighbours();
        meetings();
        periods();
        sums();
        products();
        productOrder();
        raised();
        norms();
        traces();
    }

    private static void whatItIs() {
        noBoundary("What it is", "Sums of roots of one by classes of powers: generators of a prime, its numbers parted into classes by their powers, how many of a class stand beside one of another, periods as exact numbers of their own, added, multiplied, raised, turned about, their norms and traces; the polynomial of the periods with whole numbers, its roots by other primes, solutions counted; sums read from texts with brackets; what is too great told with all it came of; shelves, lists, an image.");
        sentence("What it is", "An object is used for at most 512 calls after it has been made; what later calls answer is free.");
        PowerClasses x = new PowerClasses();
        x.field(61, 12);
        for (int call = 1; call < 511; call++) x.raise(0, 40, 1);
        due("the 512th call", x.of(1, 11), 0);
        x = new PowerClasses();
        for (int call = 0; call < 510; call++) x.feed('(');
        due("the 511th call", x.read(0), -105);
        due("the 512th call", x.why(5, 1), 5);
    }

    private static void prime() {
        sentence("Terms 1", "P is an odd prime (3 .. 61; 13 at first),");
        due("at first", new PowerClasses().told(0), 13);
        List<Integer> primes = new ArrayList<>();
        for (int p : PRIMES) primes.add(p);
        for (int p = -70; p < 140; p++) {
            int number = p;
            if (primes.contains(p)) {
                due("field " + p, new PowerClasses().field(p, 1), 13);
                PowerClasses x = new PowerClasses();
                x.field(p, 1);
                due("P", x.told(0), p);
            } else {
                due("field " + p, new PowerClasses().field(p, 1), BAD);
            }
            if (p == 2 || p == 1 || p == 9 || p == 62 || p == 67) refused("field " + p, x -> x.field(number, 1), BAD);
        }
        noBoundary("Terms 1", "All is modulo P where it says so.");

        sentence("Terms 1", "E a number (1 .. 12; 3 at first) that divides P less 1;");
        due("at first", new PowerClasses().told(1), 3);
        for (int p : PRIMES) {
            for (int e = -2; e <= 62; e++) {
                PowerClasses x = new PowerClasses();
                boolean good = e >= 1 && e <= 12 && (p - 1) % e == 0;
                due("field " + p + " " + e, x.field(p, e), good ? 13 : STATE);
                due("E behind field " + p + " " + e, x.told(1), good ? e : 3);
            }
        }
        refused("none", x -> x.field(13, 0), STATE);
        refused("13 that divides 52", x -> x.field(53, 13), STATE);
        refused("5 that does not divide", x -> x.field(13, 5), STATE);

        sentence("Terms 1", "F is (P less 1) over E.");
        for (int[] one : new int[][] {{3, 2, 1}, {13, 12, 1}, {3, 1, 2}, {61, 1, 60}, {61, 12, 5}, {13, 3, 4}}) {
            at(one[0], one[1]);
            still("F", x -> x.told(2), one[2]);
        }
    }

    private static int orderOf(int x, int p) {
        int value = x % p;
        for (int k = 1; k < p; k++) {
            if (value == 1) return k;
            value = value * x % p;
        }
        return 0;
    }

    private static void generators() {
        sentence("Terms 1", "A GENERATOR is a number 1 .. P less 1 whose powers modulo P are all numbers 1 .. P less 1;");
        for (int p : PRIMES) {
            PowerClasses x = new PowerClasses();
            x.field(p, 1);
            int many = 0;
            for (int g = -2; g < p + 4; g++) {
                boolean good = g >= 1 && g < p && orderOf(g, p) == p - 1;
                int before = x.told(3);
                due("use " + g + " of " + p, x.use(g), good ? before : BAD);
                due("G behind use " + g, x.told(3), good ? g : before);
                if (good) due("generator of " + p, x.generator(many++), g);
            }
            due("generators of " + p, x.told(4), many);
        }
        at(3, 2);
        still("P less 1 is one of 3", x -> x.use(2), 2);
        refused("1 is none", x -> x.use(1), BAD);
        at(13, 3);
        refused("P less 1 is none of 13", x -> x.use(12), BAD);
        refused("the half of all", x -> x.use(4), BAD);
        refused("2 and 13", x -> x.use(15), BAD);
        refused("2 less 13", x -> x.use(-11), BAD);
        refused("0", x -> x.use(0), BAD);
        refused("P", x -> x.use(13), BAD);

        sentence("Terms 1", "G is the least one at first.");
        due("at first", new PowerClasses().told(3), 2);
        for (int i = 0; i < PRIMES.length; i++) {
            PowerClasses x = new PowerClasses();
            x.use(11);
            x.field(PRIMES[i], 1);
            due("G of " + PRIMES[i], x.told(3), LEAST_GENERATORS[i]);
        }
    }

    private static void powers() {
        sentence("Terms 1", "POWER of a number x of 1 .. P less 1: the k of 0 .. P less 2 by which G to the k-th is x modulo P;");
        for (int i = 0; i < PRIMES.length; i++) {
            int p = PRIMES[i];
            PowerClasses x = new PowerClasses();
            x.field(p, 1);
            int value = 1;
            for (int k = 0; k <= p - 2; k++) {
                due("power of " + value + " by " + p, x.power(value), k);
                value = value * LEAST_GENERATORS[i] % p;
            }
            due("power of 0 by " + p, x.power(0), NONE);
            due("power of P", x.power(p), NONE);
        }
        still("the least", x -> x.power(1), 0);
        still("the greatest", x -> x.power(7), 11);
        refused("0", x -> x.power(0), NONE);
        refused("P", x -> x.power(13), NONE);

        sentence("Terms 1", "its CLASS: that k modulo E (0 .. E less 1).");
        still("k 0", x -> x.classOf(1), 0);
        still("k 2, the last CLASS", x -> x.classOf(4), 2);
        still("k 3, the first CLASS again", x -> x.classOf(8), 0);
        still("k 11", x -> x.classOf(7), 2);
        at(13, 12);
        still("k 11 of 12", x -> x.classOf(7), 11);
        at(13, 1);
        still("one CLASS", x -> x.classOf(7), 0);
    }

    private static void classes() {
        sentence("Terms 1", "OPPOSITE of i: the CLASS of P less x, for x of CLASS i.");
        for (int[] field : FIELDS) {
            PowerClasses x = new PowerClasses();
            x.field(field[0], field[1]);
            for (int y = 1; y < field[0]; y++) due("opposite of the class of " + y, x.opposite(x.classOf(y)), x.classOf(field[0] - y));
        }
        at(7, 2);
        still("another", x -> x.opposite(1), 0);
        at(61, 12);
        still("beyond the last", x -> x.opposite(6), 0);
        still("the last", x -> x.opposite(5), 11);
    }

    private static void neighbours() {
        sentence("Terms 1", "BESIDE of i and j: how many x of CLASS i there are for which x plus 1 (below P) is of CLASS j.");
        for (int[] field : FIELDS) {
            PowerClasses x = new PowerClasses();
            x.field(field[0], field[1]);
            int[] many = new int[field[1] * field[1]];
            for (int y = 1; y + 1 < field[0]; y++) many[x.classOf(y) * field[1] + x.classOf(y + 1)]++;
            for (int at = 0; at < many.length; at++) due("beside " + at, x.beside(at / field[1], at % field[1]), many[at]);
        }
        at(3, 2);
        still("1 and 2", x -> x.beside(0, 1), 1);
        still("2 and P", x -> x.beside(1, 0), 0);
        at(13, 1);
        still("12 numbers, the last has none beside it", x -> x.beside(0, 0), 11);
        at(13, 12);
        still("11 and 12", x -> x.beside(7, 6), 1);
        for (int j = 0; j < 12; j++) {
            int second = j;
            still("12 and P", x -> x.beside(6, second), 0);
        }
    }

    private static void meetings() {
        sentence("Terms 1", "MEETS of i, j, h: for a number z of CLASS h the pairs x of CLASS i, y of CLASS j with x plus y being z modulo P (as many for each z of that CLASS).");
        for (int[] field : FIELDS) {
            PowerClasses x = new PowerClasses();
            x.field(field[0], field[1]);
            int p = field[0];
            int[] classOf = new int[p];
            for (int y = 1; y < p; y++) classOf[y] = x.classOf(y);
            int step = field[1] > 6 ? 5 : 1;
            for (int i = 0; i < field[1]; i += step) {
                for (int j = 0; j < field[1]; j += step) {
                    int[] met = new int[p];
                    for (int a = 1; a < p; a++) {
                        for (int b = 1; b < p; b++) if (classOf[a] == i && classOf[b] == j) met[(a + b) % p]++;
                    }
                    for (int z = 1; z < p; z += step) due("meets " + i + " " + j + " at " + z, x.meets(i, j, classOf[z]), met[z]);
                }
            }
        }
        at(3, 2);
        still("1 and 1, below P", x -> x.meets(0, 0, 1), 1);
        still("2 and 2, beyond P", x -> x.meets(1, 1, 0), 1);
        still("1 and 2, P itself", x -> x.meets(0, 1, 0), 0);

        sentence("Terms 1", "TIMES of i, j, h: MEETS of i, j, h, less F, if j is OPPOSITE of i: so PERIOD i times PERIOD j is the sum of TIMES of i, j, h times PERIOD h.");
        for (int[] field : FIELDS) {
            int e = field[1], f = (field[0] - 1) / e, step = e > 6 ? 5 : 1;
            for (int i = 0; i < e; i += step) {
                PowerClasses x = new PowerClasses();
                x.field(field[0], e);
                x.period(0, i);
                for (int j = 0; j < e; j += step) {
                    x.period(1, j);
                    x.product(0, 1, 2);
                    for (int h = 0; h < e; h++) {
                        int less = x.opposite(i) == j ? f : 0;
                        due("times " + i + " " + j + " " + h, x.times(i, j, h), 1000 + x.meets(i, j, h) - less);
                        due("of the product", x.of(2, h), x.times(i, j, h) - 1000);
                    }
                }
            }
        }
        still("OPPOSITE", x -> x.times(0, 0, 0), 996);
        still("not OPPOSITE", x -> x.times(0, 1, 0), 1001);
        at(7, 2);
        still("OPPOSITE", x -> x.times(0, 1, 0), 998);
        still("not OPPOSITE", x -> x.times(0, 0, 0), 1001);
    }

    private static void periods() {
        noBoundary("Terms 1", "PERIOD i: the sum of all R to the x, x of CLASS i, R being the first P-th root of one (a complex number).");
        sentence("Terms 1", "PERIODS together are -1.");
        makes("-1", x -> x.whole(0, -1), 0, 1, 1, 1);
        reads("n0+n1+n2", 1, 1, 1);
        with(x -> row(x, 0, 1, 1, 1));
        still("-1 is whole", x -> x.isWhole(0), 1);
        still("its trace", x -> x.trace(0), -3);
        at(13, 1);
        reads("n0", 1);
        makes("-1", x -> x.whole(0, -1), 0, 1);
        at(13, 12);
        makes("-1", x -> x.whole(0, -1), 0, 1, 1, 1, 1, 1, 1, 1, 1, 1, 1, 1, 1);

        sentence("Terms 1", "A NUMBER is a row of E longs a(0) .. a(E less 1): it stands for the sum of a(i) times PERIOD i.");
        for (int[] field : FIELDS) {
            int e = field[1];
            at(field[0], e);
            for (long v : new long[] {LEAST, LEAST + 1, -1, 0, 1, MOST}) {
                changes("put at 0", x -> x.put(2, 0, v), 1, "of 2 0", "count 3");
                changes("put at the last", x -> x.put(2, e - 1, v), 1, "of 2 " + (e - 1), "count 3");
                with(x -> x.put(2, e - 1, v));
                still("of the last", x -> x.of(2, e - 1), v);
                with(x -> x.put(2, 0, v));
                still("of 0", x -> x.of(2, 0), v);
                with(x -> { });
            }
            refused("put at E", x -> x.put(2, e, 1), NONE);
            refused("put at -1", x -> x.put(2, -1, 1), NONE);
            refused("of E", x -> x.of(2, e), VOID);
            refused("of -1", x -> x.of(2, -1), VOID);
        }

        sentence("Terms 1", "The whole number n is the NUMBER of which each is 0 less n.");
        makes("0", x -> x.whole(3, 0), 3, 0, 0, 0);
        makes("1", x -> x.whole(3, 1), 3, -1, -1, -1);
        makes("the greatest", x -> x.whole(3, FAR), 3, -2147483647L, -2147483647L, -2147483647L);
        makes("the least", x -> x.whole(3, DEEP), 3, 2147483648L, 2147483648L, 2147483648L);
    }

    private static void sums() {
        sentence("Terms 1", "SUM of NUMBERS a, b: for h 0, 1, .. a(h) plus b(h).");
        with(x -> {
            row(x, 0, MOST - 1, LEAST + 1, LEAST);
            row(x, 1, 1, -1, MOST);
        });
        makes("as great as can be", x -> x.add(0, 1, 2), 2, MOST, LEAST, -1);
        for (int h = 0; h < 3; h++) {
            with(atPlace(h, MOST, 1));
            over("one too great", x -> x.add(0, 1, 2), OVER, 4, h);
            over("one too great, turned about", x -> x.add(1, 0, 2), OVER, 4, h);
            with(atPlace(h, LEAST, -1));
            over("one too small", x -> x.add(0, 1, 2), OVER, 4, h);
            over("one too small, turned about", x -> x.add(1, 0, 2), OVER, 4, h);
        }
        with(x -> row(x, 0, 1L << 62, 0, 0));
        over("to itself", x -> x.add(0, 0, 0), OVER, 4, 0);
        with(x -> row(x, 0, (1L << 62) - 1, -1L << 62, 0));
        makes("to itself", x -> x.add(0, 0, 0), 0, MOST - 1, LEAST, 0);
        at(61, 12);
        makes("twelve", x -> x.add(0, 1, 2), 2, 2100, 2102, 2104, 2106, 2108, 2110, 2112, 2114, 2116, 2118, 2120, 2122);
        with(atPlace(11, MOST, 1));
        over("the last of twelve", x -> x.add(0, 1, 2), OVER, 4, 11);
        at(3, 1);
        makes("one", x -> x.add(0, 1, 2), 2, 2100);
        with(atPlace(0, MOST, 1));
        over("one too great", x -> x.add(0, 1, 2), OVER, 4, 0);

        sentence("Terms 1", "DIFFERENCE likewise less.");
        with(x -> {
            row(x, 0, MOST - 1, LEAST + 1, -1);
            row(x, 1, -1, 1, LEAST);
        });
        makes("as great as can be", x -> x.less(0, 1, 2), 2, MOST, LEAST, MOST);
        with(x -> {
            row(x, 0, -1, MOST, LEAST);
            row(x, 1, MOST, 0, 0);
        });
        makes("as small as can be", x -> x.less(0, 1, 2), 2, LEAST, MOST, LEAST);
        for (int h = 0; h < 3; h++) {
            for (long[] pair : new long[][] {{MOST, -1}, {LEAST, 1}, {0, LEAST}, {-2, MOST}}) {
                with(atPlace(h, pair[0], pair[1]));
                over(pair[0] + " less " + pair[1], x -> x.less(0, 1, 2), OVER, 4, h);
            }
        }
        at(61, 12);
        makes("twelve", x -> x.less(1, 0, 2), 2, 100, 100, 100, 100, 100, 100, 100, 100, 100, 100, 100, 100);
        with(atPlace(11, LEAST, 1));
        over("the last of twelve", x -> x.less(0, 1, 2), OVER, 4, 11);
        at(3, 1);
        makes("one", x -> x.less(1, 0, 2), 2, 100);
        with(atPlace(0, LEAST, 1));
        over("one too small", x -> x.less(0, 1, 2), OVER, 4, 0);
    }

    private static void products() {
        sentence("Terms 1", "PRODUCT: for h 0, 1, .., for i 0, 1, .., for j 0, 1, ..: a(i) times b(j); that times TIMES of i, j, h; that comes to the sum so far (0 at first): the h-th of it.");
        with(x -> {
            row(x, 0, 1, 0, 0);
            row(x, 1, 0, 1, 0);
        });
        makes("n0 times n1", x -> x.product(0, 1, 2), 2, 1, 2, 1);
        makes("n0 times n0", x -> x.product(0, 0, 0), 0, -4, -3, -2);
        makes("n1 times n1", x -> x.product(1, 1, 0), 0, -2, -4, -3);

        // One CLASS: the PRODUCT of {a} and {b} is {a times b times -1}.
        at(3, 1);
        long[][] fits = {{MOST, 1, -MOST}, {MOST, -1, MOST}, {LEAST, 0, 0}, {0, LEAST, 0}, {1L << 31, (1L << 32) - 1, -((1L << 63) - (1L << 31))},
            {3037000499L, 3037000499L, -9223372030926249001L}, {-3037000499L, 3037000499L, 9223372030926249001L}, {LEAST + 1, -1, LEAST + 1}, {LEAST + 1, 1, MOST}};
        for (long[] one : fits) {
            with(x -> {
                row(x, 0, one[0]);
                row(x, 1, one[1]);
            });
            makes(one[0] + " times " + one[1], x -> x.product(0, 1, 2), 2, one[2]);
            makes(one[1] + " times " + one[0], x -> x.product(1, 0, 0), 0, one[2]);
        }
        long[][] tooGreat = {{MOST, 2, 1}, {LEAST, -1, 1}, {LEAST, 1, 2}, {1L << 62, 2, 1}, {-1L << 62, 2, 2}, {1L << 31, 1L << 32, 1}, {3037000500L, 3037000500L, 1},
            {-3037000500L, 3037000500L, 1}, {LEAST, LEAST, 1}, {MOST, LEAST, 1}, {LEAST, 2, 1}};
        for (long[] one : tooGreat) {
            with(x -> {
                row(x, 0, one[0]);
                row(x, 1, one[1]);
            });
            over(one[0] + " times " + one[1], x -> x.product(0, 1, 2), OVER, (int) one[2], 0);
            over(one[1] + " times " + one[0], x -> x.product(1, 0, 0), OVER, (int) one[2], 0);
        }

        // TIMES of 0, 1, h are 1, 2, 1.
        at(13, 3);
        with(x -> {
            row(x, 0, 1, 0, 0);
            row(x, 1, 0, (1L << 62) - 1, 0);
        });
        makes("twice as much is a long", x -> x.product(0, 1, 2), 2, (1L << 62) - 1, MOST - 1, (1L << 62) - 1);
        with(x -> {
            row(x, 0, 1, 0, 0);
            row(x, 1, 0, 1L << 62, 0);
        });
        over("twice as much is none", x -> x.product(0, 1, 2), OVER, 2, 10001);
        over("turned about", x -> x.product(1, 0, 2), OVER, 2, 10100);

        // PERIOD 0 times itself is PERIOD 1, times PERIOD 1 it is 1. Of {1, 1} times {x, y} the sums are
        // 0, -y, -y - x, -x for h 0 and x, x - y, -y, -y for h 1.
        at(3, 2);
        with(x -> {
            row(x, 0, 1, 1);
            row(x, 1, MOST, 1);
        });
        makes("the sum is the least long", x -> x.product(0, 1, 2), 2, -MOST, -1);
        with(x -> {
            row(x, 0, 1, 1);
            row(x, 1, MOST, 2);
        });
        over("the sum is below", x -> x.product(0, 1, 2), OVER, 3, 100);
        with(x -> {
            row(x, 0, 1, 1);
            row(x, 1, -MOST, 0);
        });
        makes("the sum is the greatest long", x -> x.product(0, 1, 2), 2, MOST, 0);
        with(x -> {
            row(x, 0, 1, 1);
            row(x, 1, -MOST, -1);
        });
        over("the sum is above", x -> x.product(0, 1, 2), OVER, 3, 100);
        with(x -> {
            row(x, 0, 1, 0);
            row(x, 1, MOST, -1);
        });
        over("for h 1 only", x -> x.product(0, 1, 2), OVER, 3, 10001);
        with(x -> {
            row(x, 0, 1, 0);
            row(x, 1, MOST - 1, -1);
        });
        makes("for h 1 just a long", x -> x.product(0, 1, 2), 2, 1, MOST);
    }

    private static void productOrder() {
        sentence("Terms 1", "All these must be longs: else it is OVER, at the first that is none.");
        with(x -> {
            row(x, 0, 0, MOST, MOST);
            row(x, 1, 0, 1, 1);
        });
        over("SUM", x -> x.add(0, 1, 2), OVER, 4, 1);
        with(x -> {
            row(x, 0, 0, LEAST, LEAST);
            row(x, 1, 0, 1, 1);
        });
        over("DIFFERENCE", x -> x.less(0, 1, 2), OVER, 4, 1);

        at(3, 2);
        with(x -> {
            row(x, 0, 2, 4);
            row(x, 1, 1L << 61, 1L << 62);
        });
        over("i ahead of j", x -> x.product(0, 1, 2), OVER, 1, 1);
        with(x -> {
            row(x, 0, 1, 4);
            row(x, 1, 1L << 61, 1L << 61);
        });
        over("only behind i 1", x -> x.product(0, 1, 2), OVER, 1, 100);
        with(x -> {
            row(x, 0, 1, 0);
            row(x, 1, MOST, LEAST);
        });
        over("what is too great times TIMES, ahead of h 1", x -> x.product(0, 1, 2), OVER, 2, 1);

        at(13, 3);
        with(x -> {
            row(x, 0, 1, 0, 1);
            row(x, 1, 0, 1L << 62, 0);
        });
        over("h ahead of i and j", x -> x.product(0, 1, 2), OVER, 3, 201);
        with(x -> {
            row(x, 0, 0, 1, 0);
            row(x, 1, 0, 0, 1L << 62);
        });
        over("for the last h only", x -> x.product(0, 1, 2), OVER, 2, 20102);
        with(x -> {
            row(x, 0, 0, 0, 1L << 62);
            row(x, 1, 0, 0, 2);
        });
        over("i and j the last", x -> x.product(0, 1, 2), OVER, 1, 202);
        // An OVER leaves all of SHELF to, though other places would have been longs.
        with(x -> {
            row(x, 0, 1, 0, 0);
            row(x, 1, 0, 1L << 62, 0);
        });
        over("to is the first", x -> x.product(0, 1, 0), OVER, 2, 10001);
        over("to is the second", x -> x.product(0, 1, 1), OVER, 2, 10001);
    }

    private static void raised() {
        sentence("Terms 1", "RAISED of a NUMBER to n (0 .. 40): 1, times it, n times, each time as PRODUCT of what there is and it.");
        with(x -> x.whole(0, 2));
        makes("to 0", x -> x.raise(0, 0, 1), 1, -1, -1, -1);
        makes("to 1", x -> x.raise(0, 1, 1), 1, -2, -2, -2);
        makes("to 39", x -> x.raise(0, 39, 1), 1, -1L << 39, -1L << 39, -1L << 39);
        makes("to 40", x -> x.raise(0, 40, 1), 1, -1L << 40, -1L << 40, -1L << 40);
        for (int n : new int[] {-1, 41, FAR, DEEP}) refused("to " + n, x -> x.raise(0, n, 1), BAD);
        at(61, 12);
        with(x -> x.whole(0, 2));
        makes("twelve", x -> x.raise(0, 2, 1), 1, -4, -4, -4, -4, -4, -4, -4, -4, -4, -4, -4, -4);
        at(3, 1);
        with(x -> x.whole(0, 3));
        makes("3 to 39", x -> x.raise(0, 39, 1), 1, -4052555153018976267L);
        over("3 to 40", x -> x.raise(0, 40, 1), OVER, 5, 39, 1, 0);
        at(3, 2);
        with(x -> row(x, 0, 5, LEAST));
        over("what there is comes first", x -> x.raise(0, 1, 1), OVER, 5, 0, 1, 1);

        sentence("Terms 1", "TURNED by k (any int): a(i) goes to (i plus k) modulo E.");
        with(x -> row(x, 0, 5, 6, 7));
        for (int k : new int[] {0, 3, -3, 2147483646, -2147483646}) makes("by " + k, x -> x.turn(0, k, 1), 1, 5, 6, 7);
        for (int k : new int[] {1, -2, 4, FAR, DEEP}) makes("by " + k, x -> x.turn(0, k, 1), 1, 7, 5, 6);
        for (int k : new int[] {2, -1, 5, FAR - 2, DEEP + 1}) makes("by " + k, x -> x.turn(0, k, 1), 1, 6, 7, 5);
        at(13, 1);
        with(x -> row(x, 0, 5));
        for (int k : new int[] {0, 1, -1, FAR, DEEP}) makes("one CLASS by " + k, x -> x.turn(0, k, 1), 1, 5);
        at(13, 12);
        with(x -> row(x, 0, 0, 1, 2, 3, 4, 5, 6, 7, 8, 9, 10, 11));
        makes("by the greatest", x -> x.turn(0, FAR, 1), 1, 5, 6, 7, 8, 9, 10, 11, 0, 1, 2, 3, 4);
        makes("by the least", x -> x.turn(0, DEEP, 1), 1, 8, 9, 10, 11, 0, 1, 2, 3, 4, 5, 6, 7);
    }

    private static void norms() {
        sentence("Terms 1", "NORM: the PRODUCT of 1 and it, TURNED by 0, then by 1, .. by E less 1 (one behind the other); it is a whole number, 0 less a(0) of that.");
        with(x -> x.whole(0, -5));
        still("of -5", x -> x.norm(0), -125);
        with(x -> row(x, 0, 1L << 32, 0, 0));
        over("by 1 is the second", x -> x.norm(0), VOID, 5, 1, 1, 1);
        at(13, 1);
        with(x -> row(x, 0, 7));
        still("one CLASS, once", x -> x.norm(0), -7);
        with(x -> row(x, 0, LEAST + 1));
        still("one CLASS, the greatest", x -> x.norm(0), MOST);
        with(x -> row(x, 0, LEAST));
        over("one CLASS, too great", x -> x.norm(0), VOID, 5, 0, 1, 0);
        at(7, 2);
        with(x -> row(x, 0, (1L << 31) - 1, 0));
        still("twice the square of it", x -> x.norm(0), 9223372028264841218L);
        with(x -> row(x, 0, 1L << 31, 0));
        over("0 less it is no long", x -> x.norm(0), VOID, 4, 2);
        with(x -> row(x, 0, 3037000500L, 0));
        over("by E less 1 too great", x -> x.norm(0), VOID, 5, 1, 1, 1);
        at(13, 12);
        with(x -> x.whole(0, 35));
        still("35 to the 12-th", x -> x.norm(0), 3379220508056640625L);
        with(x -> x.whole(0, 39));
        over("39 to the 12-th", x -> x.norm(0), VOID, 5, 11, 1, 0);
        with(x -> x.period(0, 0));
        still("all roots of one but 1", x -> x.norm(0), 1);
    }

    private static void traces() {
        sentence("Terms 1", "TRACE: 0 less all a(i), together (OVER, if one of the sums, from 0 on, by i, or that is no long).");
        long[][] fits = {{MOST, 0, 0, -MOST}, {-MOST, 0, 0, MOST}, {0, 0, -MOST, MOST}, {MOST, LEAST, 1, 0}, {LEAST, 1, 0, MOST}, {MOST - 1, 1, 0, -MOST}, {LEAST + 1, -1, 1, MOST}};
        for (long[] one : fits) {
            with(x -> row(x, 0, one[0], one[1], one[2]));
            still("of " + one[0] + " " + one[1] + " " + one[2], x -> x.trace(0), one[3]);
        }
        long[][] tooGreat = {{LEAST, 0, 0, 3}, {0, 0, LEAST, 3}, {LEAST, 1, -1, 3}, {MOST, 1, -5, 1}, {LEAST, -1, 5, 1}, {MOST, 0, 1, 2}, {LEAST, 5, -6, 2}, {LEAST + 1, -1, 0, 3}};
        for (long[] one : tooGreat) {
            with(x -> row(x, 0, one[0], one[1], one[2]));
            over("of " + one[0] + " " + one[1] + " " + one[2], x -> x.trace(0), VOID, 4, (int) one[3]);
        }
        at(13, 12);
        with(x -> row(x, 0, 0, 0, 0, 0, 0, 0, 0, 0, 0, 0, MOST, 1));
        over("the last of twelve", x -> x.trace(0), VOID, 4, 11);
        with(x -> row(x, 0, 0, 0, 0, 0, 0, 0, 0, 0, 0, 0, LEAST, 0));
        over("0 less all of twelve", x -> x.trace(0), VOID, 4, 12);
        at(13, 1);
        with(x -> row(x, 0, LEAST));
        over("0 less one", x -> x.trace(0), VOID, 4, 1);
    }
}
