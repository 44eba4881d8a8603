import java.util.LinkedHashMap;
import java.util.Map;

/**
 * Calls at the boundaries that the document names. Each is made on one of two objects with the same calls behind them;
 * then all that can be told of the one must be as it is of the other, but for what the call is to change.
 */
class Bounds {
    static final int NONE = -1, BAD = -2, STATE = -3, FULL = -4, NOT = -5, OVER = -9, MISSING = -11, PLACE = -13, BELOW = -14;
    static final long VOID = Long.MIN_VALUE, MOST = Long.MAX_VALUE, LEAST = Long.MIN_VALUE;
    static final int FAR = Integer.MAX_VALUE, DEEP = Integer.MIN_VALUE;

    /** Numbers beyond 0 .. 3, beyond 0 .. 2 as E is at first, and beyond 0 .. 2. */
    static final int[] NO_SHELVES = {-1, 4, FAR, DEEP}, NO_CLASSES = {-1, 3, FAR, DEEP}, NO_LISTS = {-1, 3, FAR, DEEP};
    /** Fields about the ends of P, E and F, with F even and odd. */
    static final int[][] FIELDS = {{3, 1}, {3, 2}, {7, 2}, {7, 6}, {13, 3}, {13, 4}, {13, 12}, {31, 5}, {61, 1}, {61, 12}};
    /** A text whose whole number is just below the greatest long; nine times as much is none, nor twice. */
    static final String V = "999*999*999*999*999*999*9";
    static final long V9 = 999L * 999 * 999 * 999 * 999 * 999 * 9;

    interface Call {
        long on(PowerClasses x);
    }

    interface Setting {
        void on(PowerClasses x);
    }

    private static final Checks checks = new Checks("BoundaryTest");
    private static Document document;
    private static int p;
    private static int e;
    private static Setting more;

    Bounds() {
    }

    static void begin(Document of) {
        document = of;
    }

    /** The tests that follow are of these words of the document, at P 13 and E 3 as long as nothing else is told. */
    static void sentence(String part, String words) {
        checks.begin(part + ", \"" + words + "\"");
        if (document != null) checks.holds("the document does not say so", document.quote(part, words));
        at(13, 3);
    }

    /** Words that name no boundary. */
    static void noBoundary(String part, String words) {
        checks.begin(part + ", \"" + words + "\"");
        if (document != null) checks.holds("the document does not say so", document.quote(part, words));
    }

    static void finish() {
        if (document == null) {
            System.out.println("BoundaryTest: ../shared/DOC.md is not there, the quotes were not looked up");
        } else {
            checks.begin("the document");
            checks.same("promises", document.promises(), 41);
            document.unquoted().forEach((part, words) -> checks.holds(part + " says what no test quotes: " + words, false));
        }
        checks.finish();
    }

    static void at(int newP, int newE) {
        p = newP;
        e = newE;
        more = x -> { };
    }

    /** What is called behind the usual setting, ahead of each of the calls that follow. */
    static void with(Setting setting) {
        more = setting;
    }

    static void due(String what, long got, long want) {
        checks.same(what, got, want);
    }

    /** An object of which nothing is as it was at first: shelves, lists, tape, why and an image that is otherwise. */
    static PowerClasses ready() {
        PowerClasses x = new PowerClasses();
        if (p != 13 || e != 3) x.field(p, e);
        x.use(x.generator(x.told(4) - 1));
        fillShelves(x, 1);
        x.image();
        x.use(x.generator(0));
        fillShelves(x, 1000);
        x.list(0, 15);
        for (int i = 0; i < 15; i++) x.lay(0, i, 500 + i);
        x.film(1, 1);
        type(x, "((1+)");
        x.read(3);
        type(x, "2*n0-7");
        more.on(x);
        return x;
    }

    private static void fillShelves(PowerClasses x, int least) {
        for (int shelf = 0; shelf < 4; shelf++) {
            for (int i = 0; i < x.told(1); i++) x.put(shelf, i, least + 100 * shelf + i);
        }
    }

    static void row(PowerClasses x, int shelf, long... values) {
        for (int i = 0; i < values.length; i++) x.put(shelf, i, values[i]);
    }

    static void laid(PowerClasses x, int list, long... values) {
        x.list(list, values.length);
        for (int i = 0; i < values.length; i++) x.lay(list, i, values[i]);
    }

    static void type(PowerClasses x, String text) {
        x.wipe();
        for (int i = 0; i < text.length(); i++) x.feed(text.charAt(i));
    }

    /** All that can be told of an object; it is of no use afterwards. */
    private static Map<String, Long> everything(PowerClasses x) {
        Map<String, Long> all = new LinkedHashMap<>();
        prime(all, x, "");
        shelves(all, x, "");
        for (int list = 0; list < 3; list++) {
            for (int i = 0; i < 16; i++) all.put("get " + list + " " + i, x.get(list, i));
        }
        for (int what = 0; what < 4; what++) all.put("count " + what, (long) x.count(what));
        why(all, x, "");
        all.put("undo", (long) x.undo());
        prime(all, x, "undone ");
        shelves(all, x, "undone ");
        all.put("tape read", (long) x.read(0));
        for (int i = 0; i < x.told(1); i++) all.put("tape of " + i, x.of(0, i));
        why(all, x, "tape ");
        return all;
    }

    private static void prime(Map<String, Long> all, PowerClasses x, String when) {
        for (int what = 0; what < 5; what++) all.put(when + "told " + what, (long) x.told(what));
        all.put(when + "power", (long) x.power(x.told(0) - 2));
        all.put(when + "beside", (long) x.beside(0, x.told(1) - 1));
        all.put(when + "times", (long) x.times(0, x.told(1) - 1, 0));
        all.put(when + "polynomial", x.polynomial(0));
    }

    private static void shelves(Map<String, Long> all, PowerClasses x, String when) {
        for (int shelf = 0; shelf < 4; shelf++) {
            for (int i = 0; i <= x.told(1); i++) all.put(when + "of " + shelf + " " + i, x.of(shelf, i));
        }
    }

    private static void why(Map<String, Long> all, PowerClasses x, String when) {
        for (int i = 0; i < 7; i++) {
            for (int what = 0; what < 2; what++) all.put(when + "why " + i + " " + what, (long) x.why(i, what));
        }
    }

    /** The two are of no use afterwards. */
    private static void same(String what, PowerClasses called, PowerClasses other, String... but) {
        Map<String, Long> got = everything(called);
        Map<String, Long> want = everything(other);
        checks.same(what + ": how many are told", got.size(), want.size());
        for (String key : want.keySet()) {
            boolean free = false;
            for (String start : but) free |= key.startsWith(start);
            if (!free) checks.same(what + ", behind it " + key, got.getOrDefault(key, 0L), want.get(key));
        }
    }

    /** The answer, and nothing changes but what begins with the words told. */
    static void changes(String what, Call call, long answer, String... but) {
        PowerClasses x = ready();
        checks.same(what, call.on(x), answer);
        same(what, x, ready(), but);
    }

    /** The answer, and nothing changes. */
    static void still(String what, Call call, long answer) {
        changes(what, call, answer);
    }

    /** As still, with the least GENERATOR and with another. */
    static void refused(String what, Call call, long answer) {
        still(what, call, answer);
        Setting before = more;
        more = x -> {
            before.on(x);
            x.use(x.generator(x.told(4) - 1));
        };
        still(what + " by another generator", call, answer);
        more = before;
    }

    /** The answer is 1, the shelf holds the row, and nothing else changes. */
    static void makes(String what, Call call, int shelf, long... row) {
        changes(what, call, 1, "of " + shelf, "count 3");
        PowerClasses x = ready();
        call.on(x);
        dueRow(what, x, shelf, row);
    }

    static void dueRow(String what, PowerClasses x, int shelf, long... row) {
        checks.same(what + ": E", x.told(1), row.length);
        for (int i = 0; i < row.length; i++) checks.same(what + ": place " + i, x.of(shelf, i), row[i]);
    }

    /** Nothing changes but WHY, which is then of these sorts and numbers, the outermost first. */
    static void over(String what, Call call, long answer, int... pairs) {
        changes(what, call, answer, "why", "count 1", "tape why");
        PowerClasses x = ready();
        call.on(x);
        dueWhy(what, x, pairs);
    }

    static void dueWhy(String what, PowerClasses x, int... pairs) {
        checks.same(what + ": troubles", x.count(1), pairs.length / 2);
        for (int i = 0; i < pairs.length; i++) checks.same(what + ": why " + i / 2 + " " + i % 2, x.why(i / 2, i % 2), pairs[i]);
        for (int what1 = 0; what1 < 2; what1++) checks.same(what + ": why behind", x.why(pairs.length / 2, what1), NOT);
    }

    /** The text is read into shelf 0, which holds the row, THE TAPE is empty, and nothing else changes. */
    static void reads(String text, long... row) {
        PowerClasses x = typed(text);
        checks.same("read of " + text, x.read(0), 1);
        dueRow("read of " + text, x, 0, row);
        same("read of " + text, x, typed(""), "of 0", "count 3");
    }

    /** The text is refused: THE TAPE is empty, WHY is as told, and nothing else changes. */
    static void unread(String text, long answer, int... pairs) {
        PowerClasses x = typed(text);
        checks.same("read of " + text, x.read(0), answer);
        dueWhy("read of " + text, x, pairs);
        same("read of " + text, x, typed(""), "why", "count 1");
    }

    static void overText(String text, int... pairs) {
        unread(text, OVER, pairs);
    }

    /** FAULT, within brackets that open at the places told behind it. */
    static void fault(String text, int place, int... brackets) {
        int[] pairs = new int[2 * brackets.length + 2];
        for (int i = 0; i < brackets.length; i++) {
            pairs[2 * i] = 6;
            pairs[2 * i + 1] = brackets[i];
        }
        pairs[2 * brackets.length] = 7;
        pairs[2 * brackets.length + 1] = place;
        unread(text, -100 - place, pairs);
    }

    private static PowerClasses typed(String text) {
        PowerClasses x = ready();
        type(x, text);
        checks.same("bytes of " + text, x.count(0), text.length());
        return x;
    }

    /** SHELVES 0 and 1 are 0 but at one place. */
    static Setting atPlace(int place, long first, long second) {
        return onePlaceEach(place, first, place, second);
    }

    /** SHELVES 0 and 1 are 0 but at a place each. */
    static Setting onePlaceEach(int i, long first, int j, long second) {
        return x -> {
            x.whole(0, 0);
            x.whole(1, 0);
            x.put(0, i, first);
            x.put(1, j, second);
        };
    }

    /** What CLASS 0 JUDGED by a LIST of these longs is. */
    static void dueJudge(long answer, long... values) {
        with(x -> laid(x, 2, values));
        still("judge", x -> x.judge(2, 0), answer);
    }

    static String times(int many, String text) {
        return text.repeat(many);
    }
}
