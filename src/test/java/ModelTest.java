/** Runs of 512 calls, by numbers that are always the same, against the model: each answer, and what is there behind it. */
public final class ModelTest {
    private static final int[] PRIMES = {3, 5, 7, 11, 13, 17, 19, 23, 29, 31, 37, 41, 43, 47, 53, 59, 61};
    private static final String[] PARTS = {"n0", "n1", "n2", "n10", "n3", "1", "2", "99", "999", "(", ")", "(", "*", "+", "-", "n", "x", "*999*999*999", "*(999*999*999*999*999)"};
    private static final Checks checks = new Checks("ModelTest");
    private static long seed;

    private final PowerClasses program = new PowerClasses();
    private final Model model = new Model();
    private final StringBuilder told = new StringBuilder();
    private boolean good = true;

    public static void main(String[] args) {
        everyField();
        for (int run = 0; run < 400; run++) {
            seed = run;
            checks.begin("run " + run);
            ModelTest test = new ModelTest();
            for (int call = 0; call < 512 && test.good; call++) test.anyCall(run);
            checks.holds("answers otherwise than the model: " + test.told, test.good);
        }
        checks.finish();
    }

    private static int below(int n) {
        seed = seed * 6364136223846793005L + 1442695040888963407L;
        return (int) ((seed >>> 33) % n);
    }

    /** All that is told of every field of the document, and the polynomial of each. */
    private static void everyField() {
        for (int p : PRIMES) {
            for (int e = 1; e <= 12; e++) {
                checks.begin("field " + p + " " + e);
                ModelTest test = new ModelTest();
                test.same("field", test.program.field(p, e), test.model.field(p, e));
                if ((p - 1) % e == 0) test.wholeField(p, e);
                checks.holds(test.told.toString(), test.good);
            }
        }
    }

    private void wholeField(int p, int e) {
        for (int what = 0; what < 5; what++) same("told", program.told(what), model.told(what));
        for (int i = 0; i < e; i++) {
            same("opposite", program.opposite(i), model.opposite(i));
            for (int j = 0; j < e; j++) same("beside", program.beside(i, j), model.beside(i, j));
            for (int k = 0; k < 2; k++) same("around", program.around(i, k), model.around(i, k));
        }
        for (int i = 0; i < e; i += 1 + e / 4) {
            for (int j = 0; j < e; j++) {
                for (int h = 0; h < e; h++) same("meets", program.meets(i, j, h), model.meets(i, j, h));
            }
        }
        java.math.BigInteger[] row = model.polynomial();
        for (int k = 0; k <= e; k++) same("polynomial", program.polynomial(k), row[k].longValueExact());
        for (int q = 2; q < 98; q += 9) same("roots", program.roots(q), model.roots(q));
        same("solved", program.solved(1, p - 1, 1), model.solved(1, p - 1, 1));
    }

    private void same(String call, long got, long due) {
        if (!good) return;
        if (got != due) {
            good = false;
            told.append(call).append(" answered ").append(got).append(", due is ").append(due);
        }
    }

    /** Now and then a number beyond what is there. */
    private static int number(int n) {
        int kind = below(30);
        if (kind == 0) return -1;
        if (kind == 1) return n;
        if (kind == 2) return Integer.MIN_VALUE;
        return below(n);
    }

    private static long value() {
        switch (below(7)) {
            case 0: return Long.MAX_VALUE - below(2);
            case 1: return Long.MIN_VALUE + below(2);
            case 2: return (1L << (20 + below(43))) * (below(2) * 2 - 1);
            case 3: return 3037000499L + below(3);
            default: return below(19) - 9;
        }
    }

    private void anyCall(int run) {
        int e = (int) model.told(1);
        int kind = below(100);
        if (kind < 8) aboutThePrime(e);
        else if (kind < 12) aboutClasses(e);
        else if (kind < 25) fillShelf(e);
        else if (kind < 55) reckon();
        else if (kind < 85) aText(run);
        else aList(e);
        look(e);
    }

    private void aboutThePrime(int e) {
        int a = number(5), b = below(5), q = number(99);
        int p = PRIMES[below(PRIMES.length)] + (below(20) == 0 ? 2 : 0);
        int newE = below(4) == 0 ? 1 + below(13) : 1 + below(6);
        switch (below(9)) {
            case 0: same("told " + a, program.told(a), model.told(a)); break;
            case 1: same("generator " + a, program.generator(a), model.generator(a)); break;
            case 2: same("use " + q, program.use(q), model.use(q)); break;
            case 3: same("image", program.image(), model.image()); break;
            case 4: same("undo", program.undo(), model.undo()); break;
            case 5: same("polynomial " + a, program.polynomial(a), model.polynomial(a)); break;
            case 6: if (b == 0) same("roots " + q, program.roots(q), model.roots(q)); break;
            default: same("field " + p + " " + newE, program.field(p, newE), model.field(p, newE)); break;
        }
    }

    private void aboutClasses(int e) {
        int p = (int) model.told(0);
        int i = number(e), j = number(e), h = number(e), x = number(p), y = number(p), z = number(p), two = number(2);
        switch (below(9)) {
            case 0: same("power", program.power(x), model.power(x)); break;
            case 1: same("classOf", program.classOf(x), model.classOf(x)); break;
            case 2: same("member", program.member(i, y / e), model.member(i, y / e)); break;
            case 3: same("beside", program.beside(i, j), model.beside(i, j)); break;
            case 4: same("meets", program.meets(i, j, h), model.meets(i, j, h)); break;
            case 5: same("times", program.times(i, j, h), model.times(i, j, h)); break;
            case 6: same("opposite", program.opposite(i), model.opposite(i)); break;
            case 7: same("around", program.around(i, two), model.around(i, two)); break;
            default: same("solved", program.solved(x, y, z), model.solved(x, y, z)); break;
        }
    }

    private void fillShelf(int e) {
        int shelf = number(4), i = number(e), n = below(10) == 0 ? Integer.MIN_VALUE : below(2001) - 1000;
        long v = value();
        switch (below(6)) {
            case 0: same("whole", program.whole(shelf, n), model.whole(shelf, n)); break;
            case 1: same("period", program.period(shelf, i), model.period(shelf, i)); break;
            default: same("put", program.put(shelf, i, v), model.put(shelf, i, v)); break;
        }
    }

    private void reckon() {
        int a = number(4), b = number(4), c = number(4), n = below(20) == 0 ? number(41) : below(9), k = below(9) == 0 ? Integer.MIN_VALUE + below(9) : below(40) - 20;
        switch (below(9)) {
            case 0: same("add", program.add(a, b, c), model.add(a, b, c)); break;
            case 1: same("less", program.less(a, b, c), model.less(a, b, c)); break;
            case 2: same("raise", program.raise(a, n, c), model.raise(a, n, c)); break;
            case 3: same("turn", program.turn(a, k, c), model.turn(a, k, c)); break;
            case 4: same("norm", program.norm(a), model.norm(a)); break;
            case 5: same("trace", program.trace(a), model.trace(a)); break;
            case 6: same("alike", program.alike(a, b), model.alike(a, b)); break;
            case 7: same("isWhole", program.isWhole(a), model.isWhole(a)); break;
            default: same("product", program.product(a, b, c), model.product(a, b, c)); break;
        }
    }

    /** Whole texts, for each byte one at a time would hardly ever be one. */
    private void aText(int run) {
        if (below(10) == 0) same("wipe", program.wipe(), model.wipe());
        StringBuilder text = new StringBuilder();
        if (below(4) == 0) {
            int many = below(12);
            for (int i = 0; i < many; i++) text.append(PARTS[below(PARTS.length)]);
        } else {
            writeSum(text, run % 3 == 0 ? 5 : 2);
        }
        if (below(5) == 0 && text.length() > 0) text.setCharAt(below(text.length()), "n0123 +*()-9"  .charAt(below(12)));
        for (int i = 0; i < text.length(); i++) same("feed", program.feed(text.charAt(i)), model.feed(text.charAt(i)));
        int shelf = number(4), odd = number(130);
        if (below(9) == 0) same("feed", program.feed(odd), model.feed(odd));
        same("read of " + text, program.read(shelf), model.read(shelf));
    }

    private static void writeSum(StringBuilder text, int depth) {
        int many = 1 + below(3);
        for (int i = 0; i < many && text.length() < 60; i++) {
            if (i > 0) text.append(below(2) == 0 ? '+' : '-');
            int parts = 1 + below(below(3) == 0 ? 8 : 3);
            for (int j = 0; j < parts; j++) {
                if (j > 0) text.append('*');
                if (depth > 0 && below(3) == 0) {
                    text.append('(');
                    writeSum(text, depth - 1);
                    text.append(')');
                } else {
                    text.append(below(3) == 0 ? "n" + below(4) : below(2) == 0 ? "" + below(1000) : "999");
                }
            }
        }
    }

    private void aList(int e) {
        int list = number(3), n = below(17) - 1 - below(15) / 14, i = number(5), shelf = number(4), c = number(e);
        long v = below(4) == 0 ? value() : below(3);
        switch (below(7)) {
            case 0: same("list", program.list(list, n), model.list(list, n)); break;
            case 1: same("lay", program.lay(list, i, v), model.lay(list, i, v)); break;
            case 2: same("get", program.get(list, i), model.get(list, i)); break;
            case 3: same("film", program.film(list, shelf), model.film(list, shelf)); break;
            case 4: tellBeside(list, e); break;
            default: same("judge", program.judge(list, c), model.judge(list, c)); break;
        }
    }

    private void tellBeside(int list, int e) {
        int size = Math.min(15, e + below(4) - 1), i = below(e);
        same("list", program.list(list, size), model.list(list, size));
        for (int j = 0; j < size; j++) {
            long v = j < e ? model.beside(i, j) : 0;
            same("lay", program.lay(list, j, v), model.lay(list, j, v));
        }
        same("judge", program.judge(list, i), model.judge(list, i));
    }

    private void look(int e) {
        for (int what = 0; what < 4; what++) same("count " + what, program.count(what), model.count(what));
        for (int i = 0; i < 7; i++) {
            for (int what = 0; what < 2; what++) same("why " + i + " " + what, program.why(i, what), model.why(i, what));
        }
        for (int shelf = 0; shelf < 4; shelf++) {
            for (int i = 0; i <= e; i++) same("of " + shelf + " " + i, program.of(shelf, i), model.of(shelf, i));
        }
    }
}
