/** The boundaries that 'Details' names, sentence by sentence. */
final class DetailsBounds extends Bounds {
    static void all() {
        details();
    }

    private static void details() {
        sentence("Details", "TROUBLES of a FAULT within brackets are the brackets that are open there, the outermost first, and then the FAULT.");
        fault("x", 0);
        fault("(x", 1, 0);
        fault("((x", 2, 0, 1);
        fault("(1+(2*(3-(4+(x", 13, 0, 3, 6, 9, 12);
        fault("(1+(2*(3-(4+((", 13, 0, 3, 6, 9, 12);
        fault("(((((1", 6, 0, 1, 2, 3, 4);

        sentence("Details", "A bracket that is closed is none of them.");
        fault("(1)x", 3);
        fault("(1)+(x", 5, 4);
        fault("((1)x", 4, 0);
        fault("((1)+(2)*(3", 11, 0, 9);
        fault("(((((1))))x", 10, 0);
        at(3, 1);
        overText("(" + V + ")*9", 1, 0);
        overText("(" + V + ")+" + V, 4, 0);
        overText("(" + V + ")*(9)", 1, 0);
        overText("((" + V + ")*9)", 6, 0, 1, 0);
        overText("1*((1)*(" + V + "*9))", 6, 2, 6, 7, 1, 0);

        sentence("Details", "RAISED to 0 and NORM multiply as told; of NORM the last thing, 0 less its number, is a TROUBLE alone.");
        at(13, 3);
        with(x -> row(x, 0, LEAST, LEAST, LEAST));
        makes("to 0", x -> x.raise(0, 0, 1), 1, -1, -1, -1);
        makes("to 0, into itself", x -> x.raise(0, 0, 0), 0, -1, -1, -1);
        over("to 1", x -> x.raise(0, 1, 1), OVER, 5, 0, 1, 0);
        over("NORM multiplies 1 by it first", x -> x.norm(0), VOID, 5, 0, 1, 0);
        with(x -> row(x, 0, 0, 0, 0));
        makes("0 to 0", x -> x.raise(0, 0, 1), 1, -1, -1, -1);
        makes("0 to 1", x -> x.raise(0, 1, 1), 1, 0, 0, 0);
        at(7, 2);
        with(x -> row(x, 0, 1L << 31, 0));
        over("0 less its number", x -> x.norm(0), VOID, 4, 2);
        with(x -> row(x, 0, 0, -1L << 31));
        over("0 less its number", x -> x.norm(0), VOID, 4, 2);

        sentence("Details", "The first PRODUCT of RAISED has the number 0.");
        at(3, 1);
        with(x -> row(x, 0, LEAST));
        over("the first", x -> x.raise(0, 2, 1), OVER, 5, 0, 1, 0);
        with(x -> row(x, 0, MOST));
        makes("the first alone is a long", x -> x.raise(0, 1, 1), 1, MOST);
        over("the second", x -> x.raise(0, 2, 1), OVER, 5, 1, 1, 0);

        sentence("Details", "A PRODUCT is OVER also where TIMES is 0.");
        at(3, 2);
        with(x -> {
            row(x, 0, MOST, 0);
            row(x, 1, 1, 0);
        });
        makes("a long, TIMES 0", x -> x.product(0, 1, 2), 2, 0, MOST);
        with(x -> {
            row(x, 0, MOST, 0);
            row(x, 1, 2, 0);
        });
        over("no long, TIMES 0", x -> x.product(0, 1, 2), OVER, 1, 0);

        sentence("Details", "A figure row may begin with 0.");
        at(13, 3);
        reads("0", 0, 0, 0);
        reads("00", 0, 0, 0);
        reads("000", 0, 0, 0);
        reads("007", -7, -7, -7);
        reads("010", -10, -10, -10);
        fault("0000", 3);
        fault("0007", 3);
        reads("01*002+n01", -2, -1, -2);

        sentence("Details", "In reading, what comes first, OVER or FAULT, is told.");
        at(3, 1);
        overText(V + "*9x", 1, 0);
        overText(V + "*9+", 1, 0);
        overText(V + "*9)", 1, 0);
        overText("(" + V + "*9", 6, 0, 1, 0);
        overText(V + "+" + V + "+x", 4, 0);
        overText(V + "*n0*9*n1", 1, 0);
        fault("x" + V + "*9", 0);
        fault(V + "*x", 26);
        fault(V + "x*9", 25);
        fault(V + "*n1", 27);
        fault(V + "*(9", 28, 26);
        fault(V + "+" + V + "*", 52);
        fault("(" + V + "x*9)", 26, 0);

        sentence("Details", "field() to what is so already changes as told.");
        PowerClasses x = new PowerClasses();
        x.use(11);
        for (int shelf = 0; shelf < 4; shelf++) row(x, shelf, 1, 2, 3);
        due("field", x.field(13, 3), 13);
        due("G", x.told(3), 2);
        due("power", x.power(11), 7);
        for (int shelf = 0; shelf < 4; shelf++) dueRow("shelf", x, shelf, 0, 0, 0);

        sentence("Details", "JUDGED: a LIST shorter than E, all of it so: 100 and its size.");
        dueJudge(100);
        dueJudge(102, 0, 1);
        dueJudge(1, 0, 2);
        dueJudge(0, 1, 1);
        dueJudge(NOT, 0, 1, 2);
    }
}
