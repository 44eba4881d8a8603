/** The boundaries that the promises 31 to 41 name: texts, lists, the image. */
final class ListPromiseBounds extends Bounds {
    static void all() {
        tape();
        read();
        readWhatComesFirst();
        list();
        layAndGet();
        film();
        judge();
        image();
        count();
    }

    private static void tape() {
        sentence("Promise 31", "A byte (32 .. 126) comes behind THE TAPE's: how many it has. BAD; FULL.");
        due("the first", new PowerClasses().feed(32), 1);
        due("the first", new PowerClasses().feed(126), 1);
        for (int letter : new int[] {DEEP, -1, 0, 9, 10, 31, 127, 128, 255, 256 + 49, FAR}) {
            refused("byte " + letter, x -> x.feed(letter), BAD);
            due("the first", new PowerClasses().feed(letter), BAD);
        }
        with(x -> type(x, times(79, "7")));
        changes("the last", x -> x.feed('7'), 80, "count 0", "tape");
        refused("BAD, not full", x -> x.feed(31), BAD);
        with(x -> type(x, "10" + times(39, "+1")));
        refused("one more", x -> x.feed('7'), FULL);
        refused("BAD and full", x -> x.feed(31), BAD);
        PowerClasses y = ready();
        type(y, "10" + times(39, "+1"));
        due("full", y.feed('7'), FULL);
        due("its bytes stay", y.read(0), 1);
        dueRow("its bytes stay", y, 0, -49, -49, -49);
        due("once more", y.feed('7'), 1);

        sentence("Promise 32", "THE TAPE is empty: how many it had.");
        due("none", new PowerClasses().wipe(), 0);
        with(x -> { });
        changes("6", x -> x.wipe(), 6, "count 0", "tape");
        with(x -> type(x, times(80, "7")));
        changes("80", x -> x.wipe(), 80, "count 0", "tape");
        with(x -> x.wipe());
        still("none", x -> x.wipe(), 0);
        y = ready();
        y.wipe();
        due("the first behind it", y.feed('8'), 1);
        due("read", y.read(0), 1);
        dueRow("only what came behind it", y, 0, -8, -8, -8);
    }

    private static void read() {
        sentence("Promise 33", "A SHELF gets what THE TAPE's TEXT tells: 1.");
        for (int shelf : new int[] {0, 3}) {
            changes("read", x -> x.read(shelf), 1, "of " + shelf, "count 0", "tape");
            PowerClasses x = ready();
            x.read(shelf);
            dueRow("2*n0-7", x, shelf, 9, 7, 7);
            due("empty", x.count(0), 0);
            due("nothing is left to read", x.read(shelf), -100);
        }
        sentence("Promise 33", "NONE (THE TAPE stays);");
        for (int no : NO_SHELVES) {
            refused("shelf " + no, x -> x.read(no), NONE);
            with(x -> type(x, "((x"));
            refused("shelf " + no + ", a FAULT", x -> x.read(no), NONE);
            with(x -> x.wipe());
            refused("shelf " + no + ", an empty tape", x -> x.read(no), NONE);
            with(x -> { });
        }
        PowerClasses y = ready();
        due("NONE", y.read(4), NONE);
        due("THE TAPE stays", y.count(0), 6);
        due("THE TAPE stays", y.read(0), 1);
        dueRow("THE TAPE stays", y, 0, 9, 7, 7);

        sentence("Promise 33", "-100 less the FAULT;");
        fault("", 0);
        fault("x", 0);
        fault("7x", 1);
        fault(times(39, "7+") + "7x", 79);
        fault(times(40, "7+"), 80);
        PowerClasses z = ready();
        type(z, "7x");
        due("FAULT", z.read(0), -101);
        due("empty", z.count(0), 0);
        due("the first behind it", z.feed('8'), 1);
        due("read", z.read(3), 1);
        dueRow("only what came behind it", z, 3, -8, -8, -8);
    }

    private static void readWhatComesFirst() {
        sentence("Promise 33", "OVER: whichever comes first as it is read from the left on.");
        at(3, 1);
        overText(V + "*9", 1, 0);
        overText(V + "+" + V, 4, 0);
        overText("0-" + V + "-" + V, 4, 0);
        reads("0-" + V, 999L * 999 * 999 * 999 * 999 * 999 * 9);
        overText(V + "*9x", 1, 0);
        fault(V + "x*9", 25);
        overText(V + "+" + V + ")", 4, 0);
        fault(V + "+)" + V, 26);
        overText(V + "*9*(((((((", 1, 0);
        fault("((((((" + V + "*9", 5, 0, 1, 2, 3, 4);
        PowerClasses x = ready();
        type(x, V + "*9");
        due("OVER", x.read(0), OVER);
        due("empty", x.count(0), 0);
        due("the first behind it", x.feed('8'), 1);
        due("read", x.read(3), 1);
        dueRow("only what came behind it", x, 3, -8);
        // In two CLASSES the places of a SUM are told.
        at(3, 2);
        overText("n0*" + V + "+n0*" + V, 4, 0);
        overText("n1*" + V + "+n1*" + V, 4, 1);
    }

    private static void list() {
        sentence("Promise 34", "A LIST holds n longs (0 .. 15), all 0, or is missing (n -1): 1. NONE: list; BAD: n above 15; BELOW: n below -1.");
        for (int list : new int[] {0, 2}) {
            for (int n : new int[] {0, 1, 15}) {
                PowerClasses x = ready();
                x.list(list, 15);
                for (int i = 0; i < 15; i++) x.lay(list, i, LEAST + i);
                due("list " + n, x.list(list, n), 1);
                for (int i = 0; i < 16; i++) due("place " + i + " of " + n, x.get(list, i), i < n ? 0 : VOID);
                due("behind the last of " + n, x.lay(list, n, 1), PLACE);
                due("the LISTS there are", x.count(2), list == 0 ? 2 : 3);
            }
            PowerClasses x = ready();
            due("missing", x.list(list, -1), 1);
            due("missing", x.get(list, 0), VOID);
            due("missing", x.lay(list, 0, 1), MISSING);
            due("missing", x.judge(list, 0), MISSING);
            due("missing", x.count(2), list == 0 ? 1 : 2);
            due("missing once more", x.list(list, -1), 1);
            due("longer again", x.list(list, 15), 1);
            for (int i = 0; i < 15; i++) due("all 0", x.get(list, i), 0);
            for (int n : new int[] {16, 17, 100, FAR}) refused("n " + n, x1 -> x1.list(list, n), BAD);
            for (int n : new int[] {-2, -3, -15, DEEP}) refused("n " + n, x1 -> x1.list(list, n), BELOW);
        }
        for (int no : NO_LISTS) {
            for (int n : new int[] {-2, -1, 0, 15, 16}) refused("list " + no, x -> x.list(no, n), NONE);
        }
    }

    private static void layAndGet() {
        sentence("Promise 35", "Place i of a LIST becomes v: 1. NONE; MISSING; PLACE.");
        for (int i : new int[] {0, 14}) {
            for (long v : new long[] {LEAST, -1, 0, MOST}) {
                changes("lay", x -> x.lay(0, i, v), 1, "get 0 " + i);
                PowerClasses x = ready();
                x.lay(0, i, v);
                due("lay", x.get(0, i), v);
            }
        }
        changes("the last of 3", x -> x.lay(1, 2, 9), 1, "get 1 2");
        for (int no : new int[] {-1, 15, 16, FAR, DEEP}) refused("place " + no, x -> x.lay(0, no, 9), PLACE);
        refused("behind the last of 3", x -> x.lay(1, 3, 9), PLACE);
        for (int i : new int[] {-1, 0, 14, 15, FAR, DEEP}) refused("missing, place " + i, x -> x.lay(2, i, 9), MISSING);
        for (int no : NO_LISTS) {
            refused("list " + no, x -> x.lay(no, 0, 9), NONE);
            refused("list " + no + ", no place", x -> x.lay(no, -1, 9), NONE);
        }
        with(x -> x.list(2, 0));
        refused("of none", x -> x.lay(2, 0, 9), PLACE);
        with(x -> {
            x.list(2, 1);
            x.list(2, -1);
        });
        refused("missing again", x -> x.lay(2, 0, 9), MISSING);

        sentence("Promise 36", "Place i of a LIST. VOID: no such LIST, missing, no such place.");
        still("the first", x -> x.get(0, 0), 500);
        still("the last", x -> x.get(0, 14), 514);
        still("the last of 3", x -> x.get(1, 2), 1102);
        for (int no : new int[] {-1, 15, 16, FAR, DEEP}) refused("place " + no, x -> x.get(0, no), VOID);
        refused("behind the last of 3", x -> x.get(1, 3), VOID);
        for (int i : new int[] {-1, 0, 14, DEEP}) refused("missing, place " + i, x -> x.get(2, i), VOID);
        for (int no : NO_LISTS) refused("list " + no, x -> x.get(no, 0), VOID);
        with(x -> x.list(0, 0));
        refused("of none", x -> x.get(0, 0), VOID);
        with(x -> x.list(0, -1));
        refused("no longer there", x -> x.get(0, 0), VOID);
    }

    private static void film() {
        sentence("Promise 37", "A LIST becomes the NUMBER of a SHELF: E. NONE.");
        for (int list = 0; list < 3; list++) {
            int to = list;
            for (int shelf : new int[] {0, 3}) {
                changes("film", x -> x.film(to, shelf), 3, "get " + list, "count 2");
                PowerClasses x = ready();
                x.film(list, shelf);
                for (int i = 0; i < 4; i++) due("place " + i, x.get(list, i), i < 3 ? 1000 + 100 * shelf + i : VOID);
                due("behind the last", x.lay(list, 3, 1), PLACE);
                x.put(shelf, 0, 9);
                due("of its own", x.get(list, 0), 1000 + 100 * shelf);
                x.lay(list, 1, 9);
                due("of its own", x.of(shelf, 1), 1001 + 100 * shelf);
            }
        }
        for (int no : NO_LISTS) refused("list " + no, x -> x.film(no, 0), NONE);
        for (int no : NO_SHELVES) {
            refused("shelf " + no, x -> x.film(0, no), NONE);
            refused("shelf " + no + ", a missing LIST", x -> x.film(2, no), NONE);
        }
        at(61, 12);
        changes("twelve", x -> x.film(2, 3), 12, "get 2", "count 2");
        at(3, 1);
        changes("one", x -> x.film(0, 3), 1, "get 0", "count 2");
        PowerClasses y = ready();
        y.film(0, 3);
        due("one", y.get(0, 0), 1300);
        due("no more than one", y.get(0, 1), VOID);
    }

    private static void judge() {
        sentence("Promise 38", "JUDGED. NONE: list, i; MISSING.");
        with(x -> laid(x, 2, 2, 1, 1));
        still("none is otherwise", x -> x.judge(2, 2), NOT);
        still("the first is", x -> x.judge(2, 0), 0);
        still("the first is", x -> x.judge(2, 1), 0);
        with(x -> laid(x, 0, 0, 1, 2));
        still("of CLASS 0", x -> x.judge(0, 0), NOT);
        with(x -> laid(x, 0, 0, 1));
        still("shorter", x -> x.judge(0, 0), 102);
        with(x -> laid(x, 0, 0, 1, 2, 0));
        still("longer", x -> x.judge(0, 0), 3);
        with(x -> x.list(0, 0));
        for (int i = 0; i < 3; i++) {
            int of = i;
            still("of none", x -> x.judge(0, of), 100);
        }
        with(x -> { });
        for (int no : NO_LISTS) refused("list " + no, x -> x.judge(no, 0), NONE);
        for (int no : NO_CLASSES) {
            refused("i " + no, x -> x.judge(0, no), NONE);
            refused("i " + no + ", missing", x -> x.judge(2, no), NONE);
        }
        for (int i = 0; i < 3; i++) {
            int of = i;
            refused("missing", x -> x.judge(2, of), MISSING);
        }
        // BESIDE is by the G there is: by 7 CLASSES 1 and 2 change places.
        with(x -> {
            laid(x, 0, 2, 1, 1);
            x.use(7);
        });
        still("by another GENERATOR", x -> x.judge(0, 1), NOT);
        still("by another GENERATOR", x -> x.judge(0, 2), 0);
        with(x -> {
            laid(x, 0, 2, 1, 1);
            x.use(2);
        });
        still("by the least", x -> x.judge(0, 2), NOT);
        still("by the least", x -> x.judge(0, 1), 0);
    }

    private static void image() {
        sentence("Promise 39", "THE IMAGE is taken: P.");
        changes("image", x -> x.image(), 13, "undone", "tape");
        PowerClasses y = ready();
        y.use(6);
        due("image", y.image(), 13);
        y.field(61, 12);
        due("undo", y.undo(), 13);
        due("the last one taken", y.told(3), 6);
        dueRow("the last one taken", y, 3, 1300, 1301, 1302);
        at(61, 12);
        changes("image", x -> x.image(), 61, "undone", "tape");
        at(3, 1);
        changes("image", x -> x.image(), 3, "undone", "tape");

        sentence("Promise 40", "All is as THE IMAGE: P.");
        at(13, 3);
        PowerClasses z = ready();
        z.field(61, 12);
        due("P of THE IMAGE", z.undo(), 13);
        dueImage(z);
        z.field(3, 1);
        due("the second time", z.undo(), 13);
        dueImage(z);
        due("the third time, nothing between", z.undo(), 13);
        dueImage(z);
        due("a shelf is its own", z.put(0, 0, 9), 1);
        due("undo", z.undo(), 13);
        dueImage(z);
        due("an image of it", z.image(), 13);
        z.put(0, 0, 9);
        due("undo", z.undo(), 13);
        dueImage(z);
        with(x -> x.undo());
        still("once more", x -> x.undo(), 13);
        at(61, 12);
        changes("undo", x -> x.undo(), 61, "told 3", "power", "beside", "times", "of ");

        sentence("Promise 40", "STATE: there is none.");
        PowerClasses none = new PowerClasses();
        none.field(7, 2);
        none.use(5);
        none.put(3, 1, 8);
        due("none", none.undo(), STATE);
        due("P", none.told(0), 7);
        due("E", none.told(1), 2);
        due("G", none.told(3), 5);
        dueRow("SHELVES", none, 3, 0, 8);
        due("image", none.image(), 7);
        due("now there is one", none.undo(), 7);
        due("G", none.told(3), 5);
        dueRow("SHELVES", none, 3, 0, 8);
    }

    private static void dueImage(PowerClasses x) {
        due("P", x.told(0), 13);
        due("E", x.told(1), 3);
        due("F", x.told(2), 4);
        due("G", x.told(3), 11);
        due("GENERATORS", x.told(4), 4);
        due("power of G", x.power(11), 1);
        due("polynomial", x.polynomial(1), -4);
        due("polynomial", x.polynomial(4), VOID);
        due("solved", x.solved(1, 1, 0), 37);
        for (int shelf = 0; shelf < 4; shelf++) dueRow("SHELVES", x, shelf, 1 + 100 * shelf, 2 + 100 * shelf, 3 + 100 * shelf);
    }

    private static void count() {
        sentence("Promise 41", "0 bytes of THE TAPE, 1 TROUBLES of WHY, 2 LISTS that are there, 3 SHELVES that are not 0. NONE.");
        int[] full = {6, 3, 2, 4};
        for (int what = 0; what < 4; what++) {
            int asked = what;
            due("at first", new PowerClasses().count(what), 0);
            still("count " + what, x -> x.count(asked), full[what]);
        }
        for (int what : new int[] {-1, 4, 5, FAR, DEEP}) refused("what " + what, x -> x.count(what), NONE);
        PowerClasses x = new PowerClasses();
        for (int many = 1; many <= 80; many++) {
            x.feed('(');
            due("bytes", x.count(0), many);
        }
        x.feed('(');
        due("no more bytes", x.count(0), 80);
        x.read(0);
        due("no bytes", x.count(0), 0);
        due("the most TROUBLES", x.count(1), 6);
        x.read(0);
        due("one TROUBLE", x.count(1), 1);
        for (int list = 0; list < 3; list++) {
            x.list(list, 0);
            due("LISTS", x.count(2), list + 1);
        }
        x.list(1, -1);
        due("LISTS", x.count(2), 2);
        for (int shelf = 0; shelf < 4; shelf++) {
            for (int i = 0; i < 3; i++) {
                x.put(shelf, i, LEAST);
                due("SHELVES, place " + i, x.count(3), 1);
                x.put(shelf, i, 1L << 32);
                due("SHELVES, place " + i, x.count(3), 1);
                x.put(shelf, i, 0);
                due("SHELVES, none", x.count(3), 0);
            }
        }
        for (int shelf = 0; shelf < 4; shelf++) {
            x.whole(shelf, 1);
            due("SHELVES", x.count(3), shelf + 1);
        }
        x.field(61, 12);
        due("SHELVES, behind field", x.count(3), 0);
        x.put(3, 11, 1);
        due("SHELVES, the last place", x.count(3), 1);
    }
}
