/** The boundaries that the promises 17 to 30 name: numbers. */
final class NumberPromiseBounds extends Bounds {
    static void all() {
        putAndOf();
        wholeAndPeriod();
        addAndLess();
        product();
        raise();
        turn();
        norm();
        trace();
        isWhole();
        alike();
        why();
    }

    private static void putAndOf() {
        sentence("Promise 17", "Place i of a SHELF's NUMBER becomes v: 1. NONE.");
        for (int shelf : new int[] {0, 3}) {
            for (int i : new int[] {0, 2}) {
                for (long v : new long[] {LEAST, -1, 0, 1, MOST}) {
                    changes("put", x -> x.put(shelf, i, v), 1, "of " + shelf + " " + i);
                    PowerClasses x = ready();
                    x.put(shelf, i, v);
                    due("put " + shelf + " " + i, x.of(shelf, i), v);
                }
            }
        }
        for (int no : NO_SHELVES) refused("shelf " + no, x -> x.put(no, 0, 9), NONE);
        for (int no : NO_CLASSES) refused("place " + no, x -> x.put(0, no, 9), NONE);
        for (int no : new int[] {4, 11, 12}) refused("place " + no, x -> x.put(3, no, 9), NONE);

        sentence("Promise 18", "Place i of a SHELF's NUMBER. VOID.");
        for (int shelf = 0; shelf < 4; shelf++) {
            int of = shelf;
            still("the first place", x -> x.of(of, 0), 1000 + 100 * shelf);
            still("the last place", x -> x.of(of, 2), 1002 + 100 * shelf);
            for (int no : NO_CLASSES) refused("place " + no, x -> x.of(of, no), VOID);
        }
        for (int no : NO_SHELVES) refused("shelf " + no, x -> x.of(no, 0), VOID);
        at(61, 12);
        still("the last of twelve", x -> x.of(3, 11), 1311);
        refused("behind it", x -> x.of(3, 12), VOID);
        PowerClasses y = ready();
        y.field(3, 1);
        due("behind a greater E", y.of(0, 1), VOID);
    }

    private static void wholeAndPeriod() {
        sentence("Promise 19", "A SHELF gets the whole number n: 1. NONE.");
        for (int shelf : new int[] {0, 3}) {
            for (int n : new int[] {DEEP, DEEP + 1, -1, 0, 1, FAR}) makes("whole " + n, x -> x.whole(shelf, n), shelf, -(long) n, -(long) n, -(long) n);
        }
        for (int no : NO_SHELVES) refused("shelf " + no, x -> x.whole(no, 1), NONE);

        sentence("Promise 20", "A SHELF gets PERIOD i: 1. NONE.");
        makes("the first", x -> x.period(0, 0), 0, 1, 0, 0);
        makes("the last", x -> x.period(3, 2), 3, 0, 0, 1);
        for (int no : NO_SHELVES) refused("shelf " + no, x -> x.period(no, 1), NONE);
        for (int no : NO_CLASSES) refused("period " + no, x -> x.period(1, no), NONE);
        at(61, 12);
        makes("the last of twelve", x -> x.period(0, 11), 0, 0, 0, 0, 0, 0, 0, 0, 0, 0, 0, 0, 1);
        refused("behind it", x -> x.period(0, 12), NONE);
        at(3, 1);
        makes("the only one", x -> x.period(0, 0), 0, 1);
        refused("behind it", x -> x.period(0, 1), NONE);
    }

    private static void addAndLess() {
        sentence("Promise 21", "SHELF to gets SUM of two: 1. NONE; OVER.");
        makes("the first and the last", x -> x.add(0, 3, 1), 1, 2300, 2302, 2304);
        makes("into the first", x -> x.add(0, 3, 0), 0, 2300, 2302, 2304);
        makes("into the second", x -> x.add(0, 3, 3), 3, 2300, 2302, 2304);
        makes("itself into itself", x -> x.add(2, 2, 2), 2, 2400, 2402, 2404);
        for (int no : NO_SHELVES) {
            refused("the first " + no, x -> x.add(no, 3, 0), NONE);
            refused("the second " + no, x -> x.add(3, no, 0), NONE);
            refused("to " + no, x -> x.add(0, 3, no), NONE);
        }
        with(x -> row(x, 0, 1, 2, MOST));
        over("one too great", x -> x.add(0, 1, 2), OVER, 4, 2);
        with(x -> row(x, 0, 1, 2, MOST - 1102));
        makes("as great as can be", x -> x.add(0, 1, 2), 2, 1101, 1103, MOST);

        sentence("Promise 22", "SHELF to gets DIFFERENCE (the first less the second): 1. NONE; OVER.");
        with(x -> { });
        makes("the first less the last", x -> x.less(0, 3, 1), 1, -300, -300, -300);
        makes("the last less the first", x -> x.less(3, 0, 1), 1, 300, 300, 300);
        makes("into the first", x -> x.less(3, 0, 3), 3, 300, 300, 300);
        makes("into the second", x -> x.less(3, 0, 0), 0, 300, 300, 300);
        makes("itself into itself", x -> x.less(2, 2, 2), 2, 0, 0, 0);
        for (int no : NO_SHELVES) {
            refused("the first " + no, x -> x.less(no, 3, 0), NONE);
            refused("the second " + no, x -> x.less(3, no, 0), NONE);
            refused("to " + no, x -> x.less(0, 3, no), NONE);
        }
        with(x -> row(x, 0, LEAST + 1100, 0, LEAST));
        over("one too small", x -> x.less(0, 1, 2), OVER, 4, 2);
        with(x -> row(x, 0, LEAST + 1100, 0, LEAST + 1102));
        makes("as small as can be", x -> x.less(0, 1, 2), 2, LEAST, -1101, LEAST);
    }

    private static void product() {
        sentence("Promise 23", "SHELF to gets PRODUCT: 1. NONE; OVER.");
        with(x -> {
            row(x, 0, 1, 0, 0);
            row(x, 3, 0, 1, 0);
        });
        makes("the first and the last", x -> x.product(0, 3, 1), 1, 1, 2, 1);
        makes("into the first", x -> x.product(0, 3, 0), 0, 1, 2, 1);
        makes("into the second", x -> x.product(0, 3, 3), 3, 1, 2, 1);
        makes("itself into itself", x -> x.product(0, 0, 0), 0, -4, -3, -2);
        for (int no : NO_SHELVES) {
            refused("the first " + no, x -> x.product(no, 3, 0), NONE);
            refused("the second " + no, x -> x.product(3, no, 0), NONE);
            refused("to " + no, x -> x.product(0, 3, no), NONE);
        }
        with(x -> {
            row(x, 0, 1, 0, 0);
            row(x, 3, 0, 1L << 62, 0);
        });
        over("over behind h 0", x -> x.product(0, 3, 0), OVER, 2, 10001);
        over("over behind h 0", x -> x.product(0, 3, 3), OVER, 2, 10001);
        over("over behind h 0", x -> x.product(0, 3, 1), OVER, 2, 10001);
        with(x -> {
            x.whole(0, 0);
            row(x, 3, LEAST, MOST, LEAST);
        });
        makes("0 times the greatest", x -> x.product(0, 3, 1), 1, 0, 0, 0);
    }

    private static void raise() {
        sentence("Promise 24", "SHELF to gets it RAISED: 1. NONE: shelf, to; BAD: n; OVER.");
        with(x -> {
            row(x, 0, 1, 2, 1);
            x.whole(3, -2);
        });
        makes("to 0", x -> x.raise(0, 0, 3), 3, -1, -1, -1);
        makes("to 1", x -> x.raise(0, 1, 3), 3, 1, 2, 1);
        makes("to 3", x -> x.raise(0, 3, 3), 3, 10, 25, 14);
        makes("to 39", x -> x.raise(3, 39, 0), 0, 1L << 39, 1L << 39, 1L << 39);
        makes("to 40, into itself", x -> x.raise(3, 40, 3), 3, -1L << 40, -1L << 40, -1L << 40);
        for (int no : NO_SHELVES) {
            refused("shelf " + no, x -> x.raise(no, 2, 0), NONE);
            refused("to " + no, x -> x.raise(0, 2, no), NONE);
            refused("shelf, n", x -> x.raise(no, 41, 0), NONE);
            refused("n, to", x -> x.raise(0, -1, no), NONE);
        }
        for (int n : new int[] {-1, 41, FAR, DEEP}) refused("n " + n, x -> x.raise(0, n, 1), BAD);
        at(3, 1);
        with(x -> row(x, 0, 3037000500L));
        makes("just a long", x -> x.raise(0, 1, 1), 1, 3037000500L);
        over("no long", x -> x.raise(0, 2, 1), OVER, 5, 1, 1, 0);
        over("no long, into itself", x -> x.raise(0, 2, 0), OVER, 5, 1, 1, 0);
        with(x -> row(x, 0, 3037000499L));
        makes("just a long", x -> x.raise(0, 2, 1), 1, -9223372030926249001L);
        over("no long", x -> x.raise(0, 3, 1), OVER, 5, 2, 1, 0);
    }

    private static void turn() {
        sentence("Promise 25", "SHELF to gets it TURNED: 1. NONE.");
        with(x -> row(x, 0, 5, 6, 7));
        makes("by 0", x -> x.turn(0, 0, 3), 3, 5, 6, 7);
        makes("by E less 1", x -> x.turn(0, 2, 3), 3, 6, 7, 5);
        makes("by E", x -> x.turn(0, 3, 3), 3, 5, 6, 7);
        makes("by -1", x -> x.turn(0, -1, 3), 3, 6, 7, 5);
        makes("by the greatest", x -> x.turn(0, FAR, 3), 3, 7, 5, 6);
        makes("by the least", x -> x.turn(0, DEEP, 3), 3, 7, 5, 6);
        makes("into itself", x -> x.turn(0, 1, 0), 0, 7, 5, 6);
        with(x -> row(x, 3, LEAST, MOST, 0));
        makes("of the last shelf", x -> x.turn(3, 1, 0), 0, 0, LEAST, MOST);
        for (int no : NO_SHELVES) {
            refused("shelf " + no, x -> x.turn(no, 1, 0), NONE);
            refused("to " + no, x -> x.turn(0, 1, no), NONE);
        }
    }

    private static void norm() {
        sentence("Promise 26", "NORM (the whole number). VOID: shelf; OVER.");
        for (int shelf : new int[] {0, 3}) {
            with(x -> x.whole(shelf, 5));
            still("of 5", x -> x.norm(shelf), 125);
            with(x -> x.whole(shelf, 0));
            still("of 0", x -> x.norm(shelf), 0);
            with(x -> x.period(shelf, 2));
            still("of a PERIOD", x -> x.norm(shelf), -1);
        }
        for (int no : NO_SHELVES) refused("shelf " + no, x -> x.norm(no), VOID);
        with(x -> row(x, 0, MOST, 2, 1));
        over("over", x -> x.norm(0), VOID, 5, 0, 2, 0);
        at(7, 2);
        with(x -> row(x, 0, 1L << 31, 0));
        over("over at last", x -> x.norm(0), VOID, 4, 2);
        with(x -> row(x, 0, (1L << 31) - 1, 0));
        still("just a long", x -> x.norm(0), 9223372028264841218L);
    }

    private static void trace() {
        sentence("Promise 27", "TRACE. VOID: shelf; OVER.");
        still("the first", x -> x.trace(0), -3003);
        still("the last", x -> x.trace(3), -3903);
        for (int no : NO_SHELVES) refused("shelf " + no, x -> x.trace(no), VOID);
        with(x -> row(x, 0, LEAST, 0, 0));
        over("over", x -> x.trace(0), VOID, 4, 3);
        with(x -> row(x, 0, LEAST + 1, 0, 0));
        still("just a long", x -> x.trace(0), MOST);
        with(x -> row(x, 0, MOST, 0, 1));
        over("over", x -> x.trace(0), VOID, 4, 2);
        with(x -> row(x, 0, MOST - 1, 0, 1));
        still("just a long", x -> x.trace(0), -MOST);
    }

    private static void isWhole() {
        sentence("Promise 28", "Whether a NUMBER is a whole one: 1, 0. NONE.");
        for (int shelf : new int[] {0, 3}) {
            for (long v : new long[] {LEAST, -1, 0, 1, MOST}) {
                with(x -> row(x, shelf, v, v, v));
                still("all " + v, x -> x.isWhole(shelf), 1);
                for (int i = 0; i < 3; i++) {
                    int place = i;
                    with(x -> {
                        row(x, shelf, v, v, v);
                        x.put(shelf, place, v + 1);
                    });
                    still("all but one " + v, x -> x.isWhole(shelf), 0);
                }
            }
        }
        with(x -> row(x, 0, 1L << 32, 0, 0));
        still("apart by far", x -> x.isWhole(0), 0);
        for (int no : NO_SHELVES) refused("shelf " + no, x -> x.isWhole(no), NONE);
        at(13, 1);
        with(x -> row(x, 0, LEAST));
        still("one place", x -> x.isWhole(0), 1);
        at(61, 12);
        with(x -> x.whole(0, 7));
        still("twelve", x -> x.isWhole(0), 1);
        with(x -> {
            x.whole(0, 7);
            x.put(0, 11, 7);
        });
        still("all but the last of twelve", x -> x.isWhole(0), 0);
        PowerClasses y = ready();
        y.field(13, 2);
        row(y, 0, 4, 4);
        due("behind a greater E", y.isWhole(0), 1);
    }

    private static void alike() {
        sentence("Promise 29", "The least k of 0 .. E less 1 by which the first TURNED is the second; NOT. NONE.");
        with(x -> {
            row(x, 0, 5, 6, 7);
            row(x, 1, 7, 5, 6);
            row(x, 2, 6, 7, 5);
            row(x, 3, 7, 6, 5);
        });
        still("itself", x -> x.alike(0, 0), 0);
        still("by 1", x -> x.alike(0, 1), 1);
        still("by E less 1", x -> x.alike(0, 2), 2);
        still("by 1 back", x -> x.alike(1, 0), 2);
        still("not", x -> x.alike(0, 3), NOT);
        still("not, the last", x -> x.alike(3, 0), NOT);
        for (int no : NO_SHELVES) {
            refused("the first " + no, x -> x.alike(no, 0), NONE);
            refused("the second " + no, x -> x.alike(0, no), NONE);
        }
        with(x -> {
            row(x, 0, 5, 5, 5);
            row(x, 1, 5, 5, 5);
            row(x, 2, 5, 5, (1L << 32) + 5);
        });
        still("the least of all", x -> x.alike(0, 1), 0);
        still("apart by far", x -> x.alike(0, 2), NOT);
        at(13, 4);
        with(x -> {
            row(x, 0, 1, 2, 1, 2);
            row(x, 1, 2, 1, 2, 1);
        });
        still("the least of two", x -> x.alike(0, 1), 1);
        still("the least of two", x -> x.alike(1, 1), 0);
        at(13, 1);
        with(x -> {
            row(x, 0, 3);
            row(x, 1, 3);
            row(x, 2, 4);
        });
        still("one place", x -> x.alike(0, 1), 0);
        still("one place", x -> x.alike(0, 2), NOT);
        at(13, 12);
        with(x -> {
            x.period(0, 0);
            x.period(1, 11);
        });
        still("by 11", x -> x.alike(0, 1), 11);
    }

    private static void why() {
        sentence("Promise 30", "Of TROUBLE i (0 the outermost) its sort (what 0), its number (1). NONE: i below 0, what; NOT: there is no such.");
        int[] pairs = {6, 0, 6, 1, 7, 4};
        for (int at = 0; at < 6; at++) {
            int i = at / 2, what = at % 2;
            still("why " + i + " " + what, x -> x.why(i, what), pairs[at]);
        }
        for (int what = 0; what < 2; what++) {
            int asked = what;
            for (int i : new int[] {3, 4, 5, 6, 7, FAR}) refused("why " + i, x -> x.why(i, asked), NOT);
            for (int i : new int[] {-1, -2, DEEP}) refused("why " + i, x -> x.why(i, asked), NONE);
            due("none yet", new PowerClasses().why(0, what), NOT);
        }
        for (int what : new int[] {-1, 2, FAR, DEEP}) {
            refused("what " + what, x -> x.why(0, what), NONE);
            refused("what " + what, x -> x.why(3, what), NONE);
            refused("what " + what, x -> x.why(-1, what), NONE);
            due("none yet", new PowerClasses().why(0, what), NONE);
        }
        with(x -> {
            type(x, "((((((");
            x.read(0);
        });
        still("the most there are", x -> x.why(5, 0), 7);
        still("the most there are", x -> x.why(5, 1), 5);
        refused("behind it", x -> x.why(6, 0), NOT);
    }
}
