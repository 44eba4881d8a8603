/** The boundaries that the second part of 'Terms' names, sentence by sentence. */
final class TermsTwoBounds extends Bounds {
    static void all() {
        asked();
        polynomials();
        solutions();
        shelvesAndTape();
        sumsOfTexts();
        parts();
        brackets();
        faults();
        everyByte();
        asItIsRead();
        why();
        whySorts();
        whyOfSums();
        lists();
        judged();
        answers();
        firstNamed();
        voids();
        whatIsRefused();
    }

    private static void asked() {
        sentence("Terms 2", "What is asked changes nothing.");
        for (int what = 0; what < 5; what++) {
            int asked = what;
            still("told", x -> x.told(asked), new long[] {13, 3, 4, 2, 4}[what]);
        }
        still("generator", x -> x.generator(3), 11);
        still("power", x -> x.power(12), 6);
        still("classOf", x -> x.classOf(12), 0);
        still("member", x -> x.member(2, 3), 9);
        still("beside", x -> x.beside(2, 0), 2);
        still("meets", x -> x.meets(0, 0, 1), 1);
        still("times", x -> x.times(2, 2, 2), 996);
        still("opposite", x -> x.opposite(2), 2);
        still("around", x -> x.around(2, 1), 4);
        still("solved", x -> x.solved(12, 12, 12), 6);
        still("polynomial", x -> x.polynomial(1), -4);
        still("roots", x -> x.roots(5), 3);
        still("of", x -> x.of(3, 2), 1302);
        still("trace", x -> x.trace(0), -3003);
        still("isWhole", x -> x.isWhole(0), 0);
        still("alike", x -> x.alike(0, 0), 0);
        still("alike", x -> x.alike(0, 1), NOT);
        still("why", x -> x.why(2, 1), 4);
        still("why", x -> x.why(3, 1), NOT);
        still("get", x -> x.get(0, 14), 514);
        still("judge", x -> x.judge(0, 0), 0);
        for (int what = 0; what < 4; what++) {
            int asked = what;
            still("count", x -> x.count(asked), new long[] {6, 3, 2, 4}[what]);
        }
        with(x -> row(x, 0, 1, 2, 1));
        still("norm", x -> x.norm(0), 1);
    }

    private static void polynomials() {
        sentence("Terms 2", "POLYNOMIAL of the PERIODS: (x less PERIOD 0) times (x less PERIOD 1) times .. up to E less 1: whole numbers at x to the 0 .. E.");
        duePolynomial(13, 3, 1, -4, 1, 1);
        duePolynomial(61, 1, 1, 1);
        duePolynomial(3, 1, 1, 1);
        duePolynomial(3, 2, 1, 1, 1);
        duePolynomial(7, 2, 2, 1, 1);
        duePolynomial(5, 2, -1, 1, 1);
        duePolynomial(13, 12, 1, 1, 1, 1, 1, 1, 1, 1, 1, 1, 1, 1, 1);
        duePolynomial(61, 12, 1179, -780, 1102, 160, -804, 167, 325, -169, -17, 11, 3, 1, 1);

        sentence("Terms 2", "ROOTS by q (2 .. 97): how many x of 0 .. q less 1 make it a multiple of q.");
        at(61, 1);
        still("q less 1 alone, the least q", x -> x.roots(2), 1);
        still("q less 1 alone, the greatest q", x -> x.roots(97), 1);
        for (int q : new int[] {1, 0, -1, -2, 98, 99, FAR, DEEP}) refused("by " + q, x -> x.roots(q), BAD);
        at(7, 2);
        // x times x, and x, and 2.
        still("0 and q less 1", x -> x.roots(2), 2);
        still("none", x -> x.roots(3), 0);
        still("4: 1 and 2", x -> x.roots(4), 2);
        still("itself: 3, twice there", x -> x.roots(7), 1);
        at(3, 2);
        still("1 alone", x -> x.roots(3), 1);
        still("35 and 61", x -> x.roots(97), 2);
        still("none of 96", x -> x.roots(96), 0);
        at(5, 2);
        still("negative values too", x -> x.roots(11), 2);
    }

    private static void duePolynomial(int p, int e, long... row) {
        at(p, e);
        for (int k = 0; k <= e; k++) {
            int place = k;
            still("at x to the " + k, x -> x.polynomial(place), row[k]);
        }
        refused("beyond E", x -> x.polynomial(e + 1), VOID);
        refused("below 0", x -> x.polynomial(-1), VOID);
    }

    private static void solutions() {
        sentence("Terms 2", "SOLVED of a, b, c (each 0 .. P less 1): how many pairs x, y of 0 .. P less 1 there are with a times x to the E-th plus b times y to the E-th being c modulo P.");
        for (int i : new int[] {-1, 13, 14, FAR, DEEP}) {
            refused("a " + i, x -> x.solved(i, 0, 0), NONE);
            refused("b " + i, x -> x.solved(0, i, 0), NONE);
            refused("c " + i, x -> x.solved(0, 0, i), NONE);
        }
        still("all 0", x -> x.solved(0, 0, 0), 169);
        still("a P less 1", x -> x.solved(12, 0, 0), 13);
        still("b P less 1", x -> x.solved(0, 12, 0), 13);
        still("c P less 1", x -> x.solved(0, 0, 12), 0);
        at(13, 12);
        // Each x but 0 to the 12-th is 1.
        still("y free, x not 0", x -> x.solved(1, 0, 1), 156);
        still("y free, x 0", x -> x.solved(1, 0, 0), 13);
        still("both not 0", x -> x.solved(1, 1, 2), 144);
        still("one of them 0", x -> x.solved(1, 1, 1), 24);
        still("both 0", x -> x.solved(1, 1, 0), 1);
        still("beyond P", x -> x.solved(12, 12, 11), 144);
        still("beyond P", x -> x.solved(12, 1, 0), 145);
        at(61, 1);
        still("all 0", x -> x.solved(0, 0, 0), 3721);
        still("all P less 1", x -> x.solved(60, 60, 60), 61);
        refused("P", x -> x.solved(0, 0, 61), NONE);
        at(3, 2);
        still("all P less 1", x -> x.solved(2, 2, 2), 4);
        refused("P", x -> x.solved(3, 0, 0), NONE);
    }

    private static void shelvesAndTape() {
        sentence("Terms 2", "SHELVES 0 .. 3 hold a NUMBER each (0 at first; each 0 as field() is told).");
        for (int shelf = 0; shelf < 4; shelf++) {
            dueRow("at first", new PowerClasses(), shelf, 0, 0, 0);
            int asked = shelf;
            changes("put", x -> x.put(asked, 2, 9), 1, "of " + shelf + " 2");
            still("of", x -> x.of(asked, 0), 1000 + 100 * shelf);
        }
        for (int shelf : new int[] {-1, 4, FAR, DEEP}) {
            refused("put", x -> x.put(shelf, 0, 9), NONE);
            refused("of", x -> x.of(shelf, 0), VOID);
        }
        for (int[] field : FIELDS) {
            PowerClasses x = ready();
            due("field", x.field(field[0], field[1]), 13);
            for (int shelf = 0; shelf < 4; shelf++) dueRow("behind field", x, shelf, new long[field[1]]);
        }

        sentence("Terms 2", "THE TAPE holds 0 .. 80 bytes 32 .. 126.");
        due("at first", new PowerClasses().count(0), 0);
        PowerClasses tape = new PowerClasses();
        for (int many = 1; many <= 80; many++) due("byte " + many, tape.feed(many % 2 == 0 ? 32 : 126), many);
        due("byte 81", tape.feed(32), FULL);
        due("80 bytes", tape.count(0), 80);
        with(x -> {
            x.wipe();
            for (int many = 0; many < 79; many++) x.feed('7');
        });
        changes("byte 80", x -> x.feed('7'), 80, "count 0", "tape");
        with(x -> {
            x.wipe();
            for (int many = 0; many < 80; many++) x.feed('7');
        });
        refused("byte 81", x -> x.feed('7'), FULL);
        with(x -> { });
        changes("32", x -> x.feed(32), 7, "count 0", "tape");
        changes("126", x -> x.feed(126), 7, "count 0", "tape");
        for (int letter : new int[] {31, 127, 0, -1, 128, 255, 256 + 'n', FAR, DEEP}) refused("byte " + letter, x -> x.feed(letter), BAD);
    }

    private static void sumsOfTexts() {
        sentence("Terms 2", "A TEXT is a SUM: PRODUCT, then any number of times + or - and PRODUCT;");
        reads("7", -7, -7, -7);
        reads("7+1", -8, -8, -8);
        reads("7-1", -6, -6, -6);
        reads("10" + times(39, "+1"), -49, -49, -49);
        reads("10" + times(39, "-1"), 29, 29, 29);
        fault("10" + times(38, "+1") + "1+", 80);
        fault("", 0);
        fault("+", 0);
        fault("-7", 0);
        fault("7+", 2);
        fault("7-", 2);
        fault("7+-1", 2);
        fault("7--1", 2);

        sentence("Terms 2", "PRODUCT: PART, then any number of times * and PART;");
        reads("7*2", -14, -14, -14);
        reads("10" + times(39, "*1"), -10, -10, -10);
        reads("1+2*3*4-5*6", 5, 5, 5);
        fault("*7", 0);
        fault("7*", 2);
        fault("7**2", 2);
        fault("7*+2", 2);
        fault("7*-2", 2);
        fault("7+*2", 2);
        at(3, 1);
        reads("n0" + times(26, "*n0"), 1);
        reads("n0" + times(25, "*n0"), -1);
    }

    private static void parts() {
        sentence("Terms 2", "PART: a figure row (1 to 3 figures, a whole number),");
        reads("0", 0, 0, 0);
        reads("9", -9, -9, -9);
        reads("99", -99, -99, -99);
        reads("999", -999, -999, -999);
        fault("9999", 3);
        fault("1000", 3);
        fault("12+3456", 6);
        fault("(1000)", 4, 0);
        for (int n = 0; n < 1000; n += 37) reads(Integer.toString(n), -n, -n, -n);

        sentence("Terms 2", "n and one or two figures (PERIOD; below E),");
        reads("n0", 1, 0, 0);
        reads("n2", 0, 0, 1);
        reads("n00", 1, 0, 0);
        reads("n02", 0, 0, 1);
        fault("n", 1);
        fault("n+1", 1);
        fault("n3", 1);
        fault("n03", 2);
        fault("n000", 3);
        fault("n002", 3);
        fault("N0", 0);
        fault("nn0", 1);
        at(3, 1);
        reads("n0", 1);
        reads("n00", 1);
        fault("n1", 1);
        fault("n01", 2);
        fault("n10", 2);
        at(61, 10);
        reads("n9", 0, 0, 0, 0, 0, 0, 0, 0, 0, 1);
        reads("n09", 0, 0, 0, 0, 0, 0, 0, 0, 0, 1);
        fault("n10", 2);
        fault("n90", 2);
        at(23, 11);
        reads("n10", 0, 0, 0, 0, 0, 0, 0, 0, 0, 0, 1);
        fault("n11", 2);
        at(61, 12);
        reads("n1", 0, 1, 0, 0, 0, 0, 0, 0, 0, 0, 0, 0);
        reads("n11", 0, 0, 0, 0, 0, 0, 0, 0, 0, 0, 0, 1);
        fault("n12", 2);
        fault("n99", 2);
        fault("n111", 3);
    }

    private static void brackets() {
        sentence("Terms 2", "or ( SUM ) (5 open at once at most).");
        reads("(7)", -7, -7, -7);
        reads("(((((7)))))", -7, -7, -7);
        fault("((((((7))))))", 5, 0, 1, 2, 3, 4);
        fault("((((((", 5, 0, 1, 2, 3, 4);
        reads("(((((7)))))*(((((2)))))+(((((1)))))", -15, -15, -15);
        reads("(((((1)+(2)))))", -3, -3, -3);
        reads("((((1+(2))*(3))))", -9, -9, -9);
        fault("(((((1+(2))))))", 7, 0, 1, 2, 3, 4);
        fault("(((((1)))))+(((((((", 17, 12, 13, 14, 15, 16);
        reads(times(19, "(1)+") + "(12)", -31, -31, -31);
        fault("()", 1, 0);
        fault("(", 1, 0);
        fault("(1", 2, 0);
        fault("(1))", 3);
        fault(")", 0);
        fault("1)", 1);
        fault("(1)(2)", 3);
        fault("2(1)", 1);
        fault("(1)2", 3);
    }

    private static void faults() {
        sentence("Terms 2", "FAULT: the place (from 0) of the first byte with which no TEXT goes on");
        fault("x", 0);
        fault("xx", 0);
        fault("7x+", 1);
        fault("7x7x", 1);
        fault(times(39, "7+") + "7x", 79);
        fault(times(40, "7+"), 80);
        fault(times(79, "7"), 3);
        fault(" 7", 0);
        fault("7 ", 1);
        fault("1 + 2", 1);

        sentence("Terms 2", "(of a PERIOD that is not below E its last figure;");
        fault("n3", 1);
        fault("n3+1", 1);
        fault("n9x", 1);
        fault("n03x", 2);
        fault("n12*", 2);
        fault("1+n3", 3);
        fault("1+n33", 4);
        fault("(n3)", 2, 0);
        fault("(n33)", 3, 0);
        fault(times(39, "7+") + "n3", 79);

        sentence("Terms 2", "a second figure belongs to the first, where there is one);");
        reads("n02", 0, 0, 1);
        fault("n20", 2);
        fault("n23", 2);
        fault("n30", 2);
        fault("n300", 2);
        fault("n2n", 2);
        fault("n020", 3);
        fault("1*n31", 4);

        sentence("Terms 2", "the length, if it ends too early.");
        fault("", 0);
        fault("n", 1);
        fault("(", 1, 0);
        fault("7+", 2);
        fault("7*n", 3);
        fault("((1)+(2)", 8, 0);
        fault(times(38, "7+") + "7*7+", 80);
        fault(times(39, "7+") + "7*", 80);
        fault(times(39, "7+") + "(7", 80, 78);
        fault(times(39, "7+") + "7(", 79);
        reads(times(39, "7+") + "77", -350, -350, -350);
    }

    /** Behind each beginning every byte: which go on, and whether the TEXT may end there. */
    private static void everyByte() {
        sentence("Terms 2", "FAULT: the place (from 0) of the first byte with which no TEXT goes on");
        String figures = "0123456789";
        goesOn("", figures, "n(");
        goesOn("1", figures, "+-*");
        goesOn("12", figures, "+-*");
        goesOn("123", "", "+-*");
        goesOn("n", "012", "");
        goesOn("n0", "012", "+-*");
        goesOn("n2", "", "+-*");
        goesOn("n02", "", "+-*");
        goesOn("(", "", figures + "n(");
        goesOn("(1", ")", figures + "+-*");
        goesOn("(123", ")", "+-*");
        goesOn("(1)", "", "+-*");
        goesOn("((1)", ")", "+-*");
        goesOn("1+", figures, "n(");
        goesOn("1-", figures, "n(");
        goesOn("1*", figures, "n(");
        goesOn("(1+", "", figures + "n(");
        goesOn("(((((", "", figures + "n");
        goesOn("((((", "", figures + "n(");
    }

    private static void goesOn(String start, String ends, String more) {
        PowerClasses x = new PowerClasses();
        int calls = 0;
        for (int letter = 32; letter <= 126; letter++) {
            if (calls > 450) {
                x = new PowerClasses();
                calls = 0;
            }
            String text = start + (char) letter;
            for (int i = 0; i < text.length(); i++) x.feed(text.charAt(i));
            calls += text.length() + 1;
            int answer = x.read(0);
            if (ends.indexOf(letter) >= 0) due(text, answer, 1);
            else if (more.indexOf(letter) >= 0) due(text, answer, -100 - text.length());
            else due(text, answer, -100 - start.length());
        }
    }

    private static void asItIsRead() {
        sentence("Terms 2", "All is done as it is read, from the left on: a PRODUCT as PARTS come, a SUM as PRODUCTS come.");
        reads("9-4-3", -2, -2, -2);
        reads("9-(4-3)", -8, -8, -8);
        reads("2+3*4-5", -9, -9, -9);
        at(3, 1);
        reads(V, -V9);
        reads(V + "-" + V + "+" + V, -V9);
        overText(V + "+" + V + "-" + V, 4, 0);
        reads(V + "+(" + V + "-" + V + ")", -V9);
        overText("0-" + V + "-" + V + "+" + V, 4, 0);
        reads("0*" + V + "*9", 0);
        overText(V + "*9*0", 1, 0);
        reads("999*999*999*999*999*(999*9*0)", 0);
        overText("0*(" + V + "*9)", 6, 2, 1, 0);
        // A PRODUCT comes to its SUM as a whole.
        reads(V + "+" + V + "*0", -V9);
        overText(V + "+" + V + "*0+" + V, 4, 0);
    }

    private static void why() {
        sentence("Terms 2", "WHY tells of what was OVER, or at FAULT, last (none at first):");
        due("none", new PowerClasses().count(1), 0);
        due("none", new PowerClasses().why(0, 0), NOT);
        PowerClasses x = new PowerClasses();
        row(x, 0, MOST, 0, 0);
        due("OVER", x.add(0, 0, 0), OVER);
        dueWhy("OVER", x, 4, 0);
        type(x, "((((((");
        due("FAULT", x.read(1), -105);
        dueWhy("more of them", x, 6, 0, 6, 1, 6, 2, 6, 3, 6, 4, 7, 5);
        due("OVER", x.raise(0, 3, 1), OVER);
        dueWhy("fewer", x, 5, 0, 2, 0);
        due("OVER", x.trace(0), -MOST);
        dueWhy("what goes well leaves it", x, 5, 0, 2, 0);
        due("refused", x.raise(0, 41, 1), BAD);
        due("refused", x.add(0, 0, 4), NONE);
        dueWhy("what is refused otherwise leaves it", x, 5, 0, 2, 0);
        row(x, 0, LEAST, 0, 0);
        due("OVER", x.trace(0), VOID);
        dueWhy("one", x, 4, 3);
        type(x, "1+");
        due("FAULT", x.read(1), -102);
        dueWhy("one", x, 7, 2);
        due("OVER", x.norm(0), VOID);
        dueWhy("two", x, 5, 0, 1, 0);
        due("OVER", x.product(0, 0, 0), OVER);
        dueWhy("one", x, 1, 0);

        sentence("Terms 2", "TROUBLES, each the cause of the one ahead of it, the outermost first:");
        at(3, 1);
        overText("2*(3+(" + V + "*9))", 6, 2, 6, 5, 1, 0);
        overText("(((((" + V + "*9)))))", 6, 0, 6, 1, 6, 2, 6, 3, 6, 4, 1, 0);
        overText("(((((" + V + "+" + V + ")))))", 6, 0, 6, 1, 6, 2, 6, 3, 6, 4, 4, 0);
        with(y -> row(y, 0, 4));
        over("of RAISED", y -> y.raise(0, 40, 1), OVER, 5, 31, 1, 0);
        with(y -> row(y, 0, LEAST));
        over("of RAISED", y -> y.raise(0, 1, 0), OVER, 5, 0, 1, 0);
    }

    private static void whySorts() {
        sentence("Terms 2", "sort 5 in RAISED or NORM, the number being how often it had been multiplied before (from 0 on);");
        at(3, 1);
        with(x -> row(x, 0, LEAST));
        over("the first of RAISED", x -> x.raise(0, 1, 1), OVER, 5, 0, 1, 0);
        over("the first of NORM", x -> x.norm(0), VOID, 5, 0, 1, 0);
        with(x -> row(x, 0, -8));
        makes("8 to 20", x -> x.raise(0, 20, 1), 1, -1L << 60);
        over("8 to 21", x -> x.raise(0, 21, 1), OVER, 5, 20, 1, 0);
        with(x -> row(x, 0, 8));
        over("-8 to 21", x -> x.raise(0, 21, 1), OVER, 5, 20, 2, 0);
        with(x -> x.whole(0, 3));
        over("the last of RAISED", x -> x.raise(0, 40, 1), OVER, 5, 39, 1, 0);
        at(13, 12);
        with(x -> x.whole(0, 39));
        over("the last of NORM", x -> x.norm(0), VOID, 5, 11, 1, 0);

        sentence("Terms 2", "sort 6 a bracket of a TEXT, the number being the place of its ( ;");
        fault("(", 1, 0);
        fault("1+(", 3, 2);
        fault(times(39, "7+") + "1(", 79);
        fault(times(38, "7+") + "1+7(", 79);
        fault(times(39, "7+") + "((", 80, 78, 79);
        fault("(((((1)))))*(", 13, 12);
        at(3, 1);
        overText("1+(" + V + "*9)", 6, 2, 1, 0);

        sentence("Terms 2", "sort 1 at last: a(i) times b(j) (number 10000 h plus 100 i plus j);");
        at(61, 12);
        with(onePlaceEach(11, MOST, 11, 2));
        over("i and j 11", x -> x.product(0, 1, 2), OVER, 1, 1111);
        with(onePlaceEach(0, MOST, 11, 2));
        over("j 11", x -> x.product(0, 1, 2), OVER, 1, 11);
        over("i 11", x -> x.product(1, 0, 2), OVER, 1, 1100);
        with(onePlaceEach(0, MOST, 0, 2));
        over("i and j 0", x -> x.product(0, 1, 2), OVER, 1, 0);

        sentence("Terms 2", "sort 2: that times TIMES (likewise);");
        // TIMES of 10, 5, h is 2 for h 11 alone, and no more than 1 for the others.
        at(61, 12);
        with(onePlaceEach(10, 1L << 62, 5, 1));
        over("h 11, i 10, j 5", x -> x.product(0, 1, 2), OVER, 2, 111005);
        with(onePlaceEach(10, (1L << 62) - 1, 5, 1));
        changes("just a long", x -> x.product(0, 1, 2), 1, "of 2", "count 3");
        // TIMES of 0, 0, h are -4, -3, -2, of 1, 1, h they are -2, -4, -3.
        at(13, 3);
        with(onePlaceEach(0, 1L << 61, 0, 1));
        makes("TIMES -4: the least long", x -> x.product(0, 1, 2), 2, LEAST, -3L << 61, -1L << 62);
        with(onePlaceEach(0, (1L << 61) + 1, 0, 1));
        over("TIMES -4: below it", x -> x.product(0, 1, 2), OVER, 2, 0);
        with(onePlaceEach(0, (1L << 61) - 1, 0, -1));
        changes("TIMES -4: the greatest long but 3", x -> x.product(0, 1, 2), 1, "of 2", "count 3");
        with(onePlaceEach(0, 1L << 61, 0, -1));
        over("TIMES -4: above it", x -> x.product(0, 1, 2), OVER, 2, 0);
        with(onePlaceEach(1, 3L << 60, 1, 1));
        over("h 1, i 1, j 1", x -> x.product(0, 1, 2), OVER, 2, 10101);

        sentence("Terms 2", "sort 3: the sum of a PRODUCT (likewise);");
        with(x -> {
            row(x, 0, 1, 0, 1);
            row(x, 1, 0, 1L << 62, 0);
        });
        over("h 0, i 2, j 1", x -> x.product(0, 1, 2), OVER, 3, 201);
        with(x -> {
            row(x, 0, 0, 1, 1);
            row(x, 1, 3L << 60, 0, 0);
        });
        // TIMES of 1, 0, h are 1, 2, 1, of 2, 0, h 2, 1, 1.
        over("h 0, i 2, j 0", x -> x.product(0, 1, 2), OVER, 3, 200);
        with(x -> {
            row(x, 0, 0, 1, 1);
            row(x, 1, (1L << 61) - 1, 0, 0);
        });
        makes("three times it is a long", x -> x.product(0, 1, 2), 2, 3 * ((1L << 61) - 1), 3 * ((1L << 61) - 1), 2 * ((1L << 61) - 1));
    }

    private static void whyOfSums() {
        sentence("Terms 2", "sort 4: a SUM, a DIFFERENCE, TRACE (h; by TRACE i; E for 0 less all of it, also for 0 less a(0) as NORM is told);");
        at(61, 12);
        for (int h : new int[] {0, 11}) {
            with(atPlace(h, LEAST, 1));
            over("DIFFERENCE", x -> x.less(0, 1, 2), OVER, 4, h);
            over("SUM", x -> x.add(0, 0, 2), OVER, 4, h);
            over("TRACE, 0 less all of it", x -> x.trace(0), VOID, 4, 12);
        }
        with(x -> {
            x.whole(0, 0);
            x.put(0, 10, LEAST);
            x.put(0, 11, -1);
        });
        over("TRACE, by i", x -> x.trace(0), VOID, 4, 11);
        at(7, 2);
        with(x -> row(x, 0, 1L << 31, 0));
        over("NORM, 0 less a(0)", x -> x.norm(0), VOID, 4, 2);
        at(13, 3);
        with(x -> row(x, 0, MOST, MOST, 0));
        over("TRACE, the second sum", x -> x.trace(0), VOID, 4, 1);

        sentence("Terms 2", "sort 7: FAULT (the place).");
        fault("", 0);
        fault("12x", 2);
        fault(times(40, "1+"), 80);
        fault("(1+n9", 4, 0);
    }

    private static void lists() {
        sentence("Terms 2", "LISTS 0 .. 2 are missing (at first), or hold 0 .. 15 longs.");
        for (int list = 0; list < 3; list++) {
            int asked = list;
            due("at first", new PowerClasses().get(list, 0), VOID);
            due("at first", new PowerClasses().lay(list, 0, 1), MISSING);
            due("at first", new PowerClasses().judge(list, 0), MISSING);
            for (int n : new int[] {0, 1, 14, 15, -1}) changes("list " + n, x -> x.list(asked, n), 1, "get " + list, "count 2");
            with(x -> x.list(asked, 15));
            changes("the last of 15", x -> x.lay(asked, 14, LEAST), 1, "get " + list + " 14");
            refused("behind it", x -> x.lay(asked, 15, 1), PLACE);
            with(x -> x.list(asked, 0));
            refused("of none", x -> x.lay(asked, 0, 1), PLACE);
            with(x -> x.list(asked, -1));
            refused("of a missing one", x -> x.lay(asked, 0, 1), MISSING);
            with(x -> { });
            refused("16", x -> x.list(asked, 16), BAD);
            refused("-2", x -> x.list(asked, -2), BELOW);
        }
        due("at first", new PowerClasses().count(2), 0);
        for (int list : new int[] {-1, 3, FAR, DEEP}) {
            refused("list " + list, x -> x.list(list, 1), NONE);
            refused("lay " + list, x -> x.lay(list, 0, 1), NONE);
            refused("get " + list, x -> x.get(list, 0), VOID);
        }
    }

    private static void judged() {
        sentence("Terms 2", "JUDGED by a LIST: it tells BESIDE of i and 0, 1, ..: the first place that is otherwise (that would be beyond E less 1, too);");
        // BESIDE of 0 and 0, 1, 2 is 0, 1, 2.
        dueJudge(0, 1, 1, 2);
        dueJudge(1, 0, 2, 2);
        dueJudge(2, 0, 1, 3);
        dueJudge(0, 1, 2, 3);
        dueJudge(1, 0, 0, 3, 0);
        dueJudge(3, 0, 1, 2, 0);
        dueJudge(3, 0, 1, 2, 0, 1, 2);
        dueJudge(3, 0, 1, 2, 0, 0, 0, 0, 0, 0, 0, 0, 0, 0, 0, 0);
        dueJudge(1, 0, 5);
        dueJudge(0, 7);
        dueJudge(0, 1L << 32, 1, 2);
        dueJudge(2, 0, 1, (1L << 32) + 2);
        dueJudge(0, VOID, 1, 2);

        sentence("Terms 2", "100 and its size, if it is shorter than E; NOT: none.");
        dueJudge(100);
        dueJudge(101, 0);
        dueJudge(102, 0, 1);
        dueJudge(NOT, 0, 1, 2);
        at(13, 12);
        dueJudge(111, 0, 1, 0, 0, 0, 0, 0, 0, 0, 0, 0);
        dueJudge(NOT, 0, 1, 0, 0, 0, 0, 0, 0, 0, 0, 0, 0);
        dueJudge(12, 0, 1, 0, 0, 0, 0, 0, 0, 0, 0, 0, 0, 0);
        dueJudge(12, 0, 1, 0, 0, 0, 0, 0, 0, 0, 0, 0, 0, 0, 0, 0);
        dueJudge(10, 0, 1, 0, 0, 0, 0, 0, 0, 0, 0, 1);
        at(13, 1);
        dueJudge(100);
        dueJudge(NOT, 11);
        dueJudge(0, 12);
        dueJudge(1, 11, 11);
    }

    private static void answers() {
        sentence("Terms 2", "Answers: NONE (-1) no such number; BAD (-2) a number is not as told; STATE (-3) as told; FULL (-4); NOT (-5) as told; OVER (-9); MISSING (-11); PLACE (-13); BELOW (-14);");
        int[] constants = {PowerClasses.NONE, PowerClasses.BAD, PowerClasses.STATE, PowerClasses.FULL, PowerClasses.NOT, PowerClasses.OVER, PowerClasses.MISSING,
            PowerClasses.PLACE, PowerClasses.BELOW};
        int[] numbers = {-1, -2, -3, -4, -5, -9, -11, -13, -14};
        for (int i = 0; i < 9; i++) due("constant " + i, constants[i], numbers[i]);
        refused("NONE", x -> x.told(5), -1);
        refused("BAD", x -> x.use(1), -2);
        refused("STATE", x -> x.field(13, 5), -3);
        with(x -> type(x, times(80, "1")));
        refused("FULL", x -> x.feed('1'), -4);
        with(x -> { });
        refused("NOT", x -> x.alike(0, 1), -5);
        refused("MISSING", x -> x.lay(2, 0, 0), -11);
        refused("PLACE", x -> x.lay(0, 15, 0), -13);
        refused("BELOW", x -> x.list(0, -2), -14);
        with(x -> row(x, 0, MOST, 0, 0));
        over("OVER", x -> x.add(0, 0, 0), -9, 4, 0);
    }

    private static void firstNamed() {
        sentence("Terms 2", "of several the first that the call's words name.");
        refused("field: BAD ahead of STATE", x -> x.field(9, 13), BAD);
        refused("field: STATE", x -> x.field(13, 13), STATE);
        refused("member: both", x -> x.member(3, 4), NONE);
        refused("raise: NONE ahead of BAD", x -> x.raise(4, 41, 0), NONE);
        refused("raise: NONE ahead of BAD", x -> x.raise(0, -1, 4), NONE);
        with(x -> row(x, 0, LEAST, LEAST, LEAST));
        refused("add: NONE ahead of OVER", x -> x.add(0, 0, 4), NONE);
        refused("less: NONE ahead of OVER", x -> x.less(1, 0, 4), NONE);
        refused("product: NONE ahead of OVER", x -> x.product(0, 0, -1), NONE);
        refused("raise: NONE ahead of OVER", x -> x.raise(0, 2, 4), NONE);
        refused("raise: BAD ahead of OVER", x -> x.raise(0, 41, 1), BAD);
        with(x -> { });
        refused("why: NONE ahead of NOT", x -> x.why(3, 2), NONE);
        refused("why: NONE", x -> x.why(-1, 2), NONE);
        refused("alike: NONE ahead of NOT", x -> x.alike(0, 4), NONE);
        with(x -> type(x, times(80, "1")));
        refused("feed: BAD ahead of FULL", x -> x.feed(127), BAD);
        refused("feed: FULL", x -> x.feed(126), FULL);
        with(x -> type(x, "((x"));
        refused("read: NONE ahead of FAULT", x -> x.read(4), NONE);
        with(x -> { });
        refused("list: NONE ahead of BAD", x -> x.list(3, 16), NONE);
        refused("list: NONE ahead of BELOW", x -> x.list(-1, -2), NONE);
        refused("lay: NONE ahead of PLACE", x -> x.lay(3, 15, 1), NONE);
        refused("lay: MISSING ahead of PLACE", x -> x.lay(2, 15, 1), MISSING);
        refused("lay: MISSING ahead of PLACE", x -> x.lay(2, -1, 1), MISSING);
        refused("judge: NONE ahead of MISSING", x -> x.judge(2, 3), NONE);
        refused("judge: NONE", x -> x.judge(3, 3), NONE);
    }

    private static void voids() {
        sentence("Terms 2", "VOID: the least long, for all of them where a long is answered (a NUMBER may hold it, too).");
        due("the least long", PowerClasses.VOID, -9223372036854775807L - 1);
        refused("polynomial", x -> x.polynomial(4), LEAST);
        refused("of", x -> x.of(0, 3), LEAST);
        refused("get", x -> x.get(2, 0), LEAST);
        refused("norm", x -> x.norm(4), LEAST);
        refused("trace", x -> x.trace(4), LEAST);
        with(x -> row(x, 0, LEAST, 0, 0));
        over("norm, OVER", x -> x.norm(0), LEAST, 5, 0, 1, 0);
        over("trace, OVER", x -> x.trace(0), LEAST, 4, 3);
        still("a NUMBER that holds it", x -> x.of(0, 0), LEAST);
        changes("put of it", x -> x.put(1, 1, VOID), 1, "of 1 1");
        changes("film of it", x -> x.film(0, 0), 3, "get 0");
        with(x -> {
            row(x, 0, LEAST, 0, 0);
            x.film(0, 0);
        });
        still("a LIST that holds it", x -> x.get(0, 0), LEAST);

        sentence("Details", "The constants: `VOID = Long.MIN_VALUE`: No such number.");
        due("VOID", PowerClasses.VOID, Long.MIN_VALUE);
    }

    private static void whatIsRefused() {
        sentence("Terms 2", "What is answered so changes nothing but WHY (by OVER, FAULT) and THE TAPE, which is empty behind each read().");
        with(x -> row(x, 0, MOST, 0, 0));
        over("add into the first", x -> x.add(0, 0, 0), OVER, 4, 0);
        with(x -> {
            row(x, 0, 1, 2, MOST);
            row(x, 1, 1, 2, 1);
        });
        over("add, the last place", x -> x.add(0, 1, 0), OVER, 4, 2);
        over("add, the last place", x -> x.add(0, 1, 1), OVER, 4, 2);
        over("add, the last place", x -> x.add(0, 1, 2), OVER, 4, 2);
        with(x -> {
            row(x, 0, 1, 2, LEAST);
            row(x, 1, 1, 2, 1);
        });
        over("less, the last place", x -> x.less(0, 1, 0), OVER, 4, 2);
        over("less, the last place", x -> x.less(0, 1, 1), OVER, 4, 2);
        at(3, 1);
        with(x -> x.whole(0, 3));
        over("raise into itself", x -> x.raise(0, 40, 0), OVER, 5, 39, 1, 0);
        over("raise into another", x -> x.raise(0, 40, 3), OVER, 5, 39, 1, 0);
        at(13, 3);
        reads("7", -7, -7, -7);
        fault("7+", 2);
        fault("7+7+7+x", 6);
        at(3, 1);
        overText("7+" + V + "+" + V, 4, 0);
        with(x -> type(x, "7+7"));
        refused("NONE of read", x -> x.read(4), NONE);

        sentence("Terms 2", "THE IMAGE: P, E, G, SHELVES (not LISTS, THE TAPE, WHY).");
        at(13, 3);
        PowerClasses x = ready();
        x.use(7);
        x.image();
        x.field(61, 12);
        x.use(59);
        x.list(0, -1);
        x.list(2, 4);
        x.lay(2, 3, 44);
        x.wipe();
        row(x, 0, LEAST);
        x.trace(0);
        due("undo", x.undo(), 13);
        due("P", x.told(0), 13);
        due("E", x.told(1), 3);
        due("G", x.told(3), 7);
        for (int shelf = 0; shelf < 4; shelf++) dueRow("SHELVES", x, shelf, 1000 + 100 * shelf, 1001 + 100 * shelf, 1002 + 100 * shelf);
        due("LISTS", x.get(0, 0), VOID);
        due("LISTS", x.get(2, 3), 44);
        due("LISTS", x.count(2), 2);
        due("THE TAPE", x.count(0), 0);
        dueWhy("WHY", x, 4, 12);
    }
}
