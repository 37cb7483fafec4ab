import java.util.Arrays;

/** The sentences of "5 BODIES and SHELVES" that name a least, a greatest, what is beyond, empty or full, and what wraps. */
public final class ShelvesEdgesTest extends Sentences {
    private static final int[] FAR = {0, 1, -1, 2, 5, 715827883, 1 << 30, LEAST, LEAST + 1, GREATEST, GREATEST - 1};

    public static void main(String[] args) {
        open("======== 5 ", "Answers, of several the one named first");
        bodies();
        acts();
        bodiesOfActs();
        trace();
        shelves();
        elements();
        lowestBits();
        refusals();
        layersFromARow();
        whereItEnds();
        finish();
    }

    private static void bodies() {
        says("BODIES 0 .. 49 are kept by call, of KINDS");
        HayRemembers x = new HayRemembers();
        due("no body", x.act(0, 0, 1), 0);
        due("no body", x.count(5), 0);
        for (int i = 0; i <= 49; i++) {
            due("body()", x.body(0), i);
        }
        due("a fifty-first", x.body(0), FULL);
        due("n of the last", x.act(49, 0, 1), 50);
        due("body 50", x.act(50, 0, 1), 0);
        due("body 50 ran nothing", x.count(5), 0);
        due("body -1", x.act(-1, 0, 1), 0);
        due("keep() of the last", x.keep(0, 49), 1);
        due("keep() of 50", x.keep(0, 50), BAD);
        says("0 BUILDER; 1 COW under BUILDER; 2 KNIFE under BUILDER; 3 CUCKOO under KNIFE; 4 LEE under COW; "
            + "5 LADY under CUCKOO; 6 RAKE under BUILDER; 7 CHILD under RAKE");
        takes("KIND", 0, 7, BAD, HayRemembers::new, (y, v) -> y.body(v));
        HayRemembers two = new HayRemembers();
        two.body(3);
        two.body(7);
        two.keep(0, 1);
        two.keep(1, 0);
        due("the second body", two.taken(0, 0), 7);
        due("the first body", two.taken(1, 0), 3);
        two.keep(1, 1);
        due("the second on both", two.taken(1, 6), 7);
        int[] above = {-1, 0, 0, 2, 1, 3, 0, 6};
        for (int kind = 0; kind <= 7; kind++) {
            HayRemembers y = new HayRemembers();
            y.keep(0, y.body(kind));
            for (int k = 0; k <= 7; k++) {
                int up = kind;
                while (up >= 0 && up != k) {
                    up = above[up];
                }
                due("a " + kind + " for a " + k, y.taken(0, k), up == k ? kind : UNLIKE);
            }
        }
    }

    private static void acts() {
        says("ACTS with x (an int that wraps): 0 lays, 1 leans, 2 cuts, 3 tells; n its number");
        takes("ACT", 0, 3, 0, () -> embody(new HayRemembers(), 0), (x, v) -> x.act(0, v, 5));
        HayRemembers x = new HayRemembers();
        x.body(0);
        x.body(1);
        due("0 lays", x.act(1, 0, 5), 5 + 1 + 3);
        due("1 leans", x.act(0, 1, 5), 10);
        due("2 cuts", x.act(1, 2, 5), 5 ^ 1);
        due("3 tells", x.act(0, 3, 5), 9);
        due("the greatest, and n", x.act(1, 0, GREATEST), LEAST + 3);
        due("the greatest twice", x.act(0, 1, GREATEST), -2);
        due("the least twice", x.act(0, 1, LEAST), 0);
        due("the least twice, less 1", x.act(0, 3, LEAST), -1);
    }

    private static void bodiesOfActs() {
        String[] all = {"BODIES of acts: LAYS (an interface of BUILDER): 1 lays: x + n.", "BUILDER: 10 leans: lays(x) * 2.",
            "11 cuts: x ^ n.", "TELLS (of BUILDER): 2 tells: leans(x) - cuts(1).", "COW: 20 lays: super.lays(x) + 3.",
            "KNIFE: 30 leans: -super.leans(x).", "CUCKOO: 40 cuts: super.cuts(x) * 3.", "41 leans: super.leans(x + 1).",
            "LEE: 50 tells: super.tells(x) ^ 5.", "LADY: 60 cuts: super.cuts(x) - lays(2).", "61 tells: super.tells(x) + 1.",
            "RAKE: 70 lays: super.lays(x) * 2.", "CHILD: 80 leans: super.leans(x) + cuts(2).", "81 lays: super.lays(x) - 1.",
            "lays(..) and so on: the body of its own KIND, or of the next KIND above that has one; "
                + "super: from the KIND above the body's on"};
        for (String one : all) {
            says(one);
        }
        for (int number : new int[] {0, 1, 7, 49}) {
            for (int kind = 0; kind <= 7; kind++) {
                HayRemembers x = new HayRemembers();
                for (int i = 0; i < number; i++) {
                    x.body((kind + 1 + i) % 8);
                }
                due("its number", x.body(kind), number);
                for (int act = 0; act <= 3; act++) {
                    for (int v : FAR) {
                        actAsDue(x, kind, number, act, v);
                    }
                }
            }
        }
    }

    private static void actAsDue(HayRemembers x, int kind, int number, int act, int v) {
        Kinds.Builder model = Kinds.make(kind, number);
        String call = "act(" + number + ", " + act + ", " + v + ") of a " + kind;
        due(call, x.act(number, act, v), model.perform(act, v));
        if (v == 5) {
            due("how many ran by " + call, x.count(5), model.ran.size());
            for (int i = 0; i < model.ran.size(); i++) {
                due("the trace of " + call, x.trace(i), model.ran.get(i));
            }
            due("no more by " + call, x.trace(model.ran.size()), BAD);
        }
    }

    private static void trace() {
        says("THE TRACE: numbers of the bodies that ran in the latest act(), as they began; the first 24 are kept");
        HayRemembers x = new HayRemembers();
        due("ahead of all acts", x.trace(0), BAD);
        for (int kind = 0; kind <= 7; kind++) {
            x.body(kind);
        }
        x.act(5, 3, 1);
        int[] longest = {61, 2, 41, 30, 10, 1, 60, 40, 11, 1};
        for (int i = 0; i < longest.length; i++) {
            due("the longest, " + i, x.trace(i), longest[i]);
        }
        for (int i : new int[] {LEAST, -1, 10, 11, 23, 24, 25, GREATEST}) {
            due("trace(" + i + ")", x.trace(i), BAD);
        }
        x.act(0, 0, 1);
        due("of the latest alone", x.trace(0), 1);
        due("of the latest alone", x.trace(1), BAD);
        x.act(8, 0, 1);
        due("of no body", x.trace(0), BAD);
    }

    private static void shelves() {
        says("SHELVES 0 .. 5 each hold nothing (at first), a BODY, or a ROW");
        for (int shelf = 0; shelf <= 5; shelf++) {
            HayRemembers x = new HayRemembers();
            due("nothing at first", x.taken(shelf, 0), MISSING);
            due("nothing at first", x.put(shelf, 0, 1), MISSING);
            embody(x, shelf);
            due("a BODY", x.taken(shelf, 0), 0);
            due("a BODY is no ROW", x.put(shelf, 0, 1), UNLIKE);
            due("a ROW", x.row(shelf, BYTES, 1), 1);
            due("a ROW is no BODY", x.taken(shelf, 0), UNLIKE);
            due("a ROW takes an element", x.put(shelf, 0, 1), 1);
            due("nothing again", x.keep(shelf, -1), 1);
            due("nothing again", x.put(shelf, 0, 1), MISSING);
            for (int other = 0; other <= 5; other++) {
                due("another holds nothing", x.taken(other, 0), MISSING);
            }
        }
        takes("SHELF", 0, 5, BAD, HayRemembers::new, (x, v) -> x.row(v, BYTES, 1));
        takes("SHELF", 0, 5, BAD, HayRemembers::new, (x, v) -> x.keep(v, -1));
        takes("SHELF", 0, 5, BAD, HayRemembers::new, (x, v) -> x.taken(v, 0));
    }

    private static void elements() {
        says("of 0 bytes, 1 shorts, 2 ints, 3 longs, 4 booleans, of 0 .. 60 elements, 0 at first (false)");
        takes("sort", BYTES, BOOLEANS, BAD, HayRemembers::new, (x, v) -> x.row(0, v, 1));
        for (int sort = BYTES; sort <= BOOLEANS; sort++) {
            for (int n : new int[] {0, 1, 2, 59, 60}) {
                HayRemembers x = new HayRemembers();
                due("a ROW of " + n, x.row(0, sort, n), 1);
                for (int i = 0; i < n; i++) {
                    due("0 at first", x.element(0, i), 0);
                }
                due("behind its end", x.element(0, n), NO_LONG);
                due("ahead of it", x.element(0, -1), NO_LONG);
                due("the last", x.put(0, n - 1, 1), n == 0 ? NO_PLACE : 1);
                due("behind the last", x.put(0, n, 1), NO_PLACE);
            }
            HayRemembers x = new HayRemembers();
            due("61 elements", x.row(0, sort, 61), BAD);
            due("-1 elements", x.row(0, sort, -1), NO_SIZE);
            due("still nothing", x.put(0, 0, 1), MISSING);
        }
        HayRemembers x = shelve(new HayRemembers(), 0, LONGS, 5, 6, 7);
        x.row(0, INTS, 2);
        x.row(0, LONGS, 3);
        for (int i = 0; i < 3; i++) {
            due("0 anew", x.element(0, i), 0);
        }
    }

    private static void lowestBits() {
        says("what is put in keeps its lowest bits (a boolean: whether it is not 0; 1 or 0)");
        for (int bits : new int[] {7, 8, 15, 16, 31, 32, 62, 63}) {
            for (int more = -2; more <= 2; more++) {
                for (int sign = -1; sign <= 1; sign += 2) {
                    long v = sign * (1L << bits) + more;
                    long[] left = {(byte) v, (short) v, (int) v, v, v == 0 ? 0 : 1};
                    for (int sort = BYTES; sort <= BOOLEANS; sort++) {
                        due(v + " in a ROW of " + sort, shelve(new HayRemembers(), 0, sort, v).element(0, 0), left[sort]);
                    }
                }
            }
        }
        HayRemembers x = shelve(new HayRemembers(), 0, BOOLEANS, 1);
        x.put(0, 0, 0);
        due("false again", x.element(0, 0), 0);
    }

    private static void refusals() {
        says("-11 nothing is there where something is wanted");
        HayRemembers x = embody(shelve(shelve(yard(1), 1, BYTES, 1, 2), 2, SHORTS, 100), 3);
        due("winter()", x.winter(0, 0, 0), MISSING);
        due("order()", x.order(0, 0, -1), MISSING);
        due("judge()", x.judge(0, 0), MISSING);
        due("put()", x.put(0, 0, 0), MISSING);
        due("shift()", x.shift(0, 0, 1, 0, 0), MISSING);
        due("taken()", x.taken(0, 0), MISSING);
        says("-12 it is of another kind");
        due("winter()", x.winter(2, 0, 0), UNLIKE);
        due("order()", x.order(1, 0, -1), UNLIKE);
        due("judge()", x.judge(3, 0), UNLIKE);
        due("layers()", x.layers(2, 0, 1), UNLIKE);
        due("put()", x.put(3, 0, 0), UNLIKE);
        due("shift()", x.shift(1, 0, 2, 0, 0), UNLIKE);
        due("taken()", x.taken(3, 1), UNLIKE);
        says("-13 a place that is not there");
        due("put()", x.put(1, 2, 0), NO_PLACE);
        due("put()", x.put(1, -1, 0), NO_PLACE);
        due("shift()", x.shift(1, 2, 1, 0, 1), NO_PLACE);
        says("-14 a size below 0");
        due("row() of -1", x.row(0, BYTES, -1), NO_SIZE);
        due("row() of the least", x.row(0, BYTES, LEAST), NO_SIZE);
        due("row() of 0", x.row(0, BYTES, 0), 1);
    }

    private static void layersFromARow() {
        says("LAYERS FROM A ROW of bytes, from place i on: by threes WAY, FORCE, MARK: n of them on a RICK");
        // a layer begins wherever one looks
        long[] row = {7, 1, 7, 1, 2, 1, 3, 4, 5, 6, 7, 2};
        for (int i = -3; i <= 13; i++) {
            for (int n = 1; n <= 12; n++) {
                HayRemembers x = shelve(yard(2), 0, BYTES, row);
                int came = i < 0 || i > 12 ? 0 : Math.min(n, (12 - i) / 3);
                due("layers(0, " + i + ", " + (100 + n) + ")", x.layers(0, i, 100 + n), came);
                due("they lie", x.of(1, HEIGHT), came);
                due("LED", x.led(0), came);
                for (int k = 0; k < came; k++) {
                    due("WAY", x.of(16 + k, WAY), row[i + 3 * k]);
                    due("FORCE", x.of(16 + k, FORCE), row[i + 3 * k + 1]);
                    due("MARK", x.of(16 + k, MARK), row[i + 3 * k + 2]);
                    due("AGE", x.of(16 + k, AGE), 0);
                }
            }
        }
    }

    private static void whereItEnds() {
        says("it ends where the row is missing, ends (within a three, too), one is not as it may be, or there is no room: "
            + "those ahead came");
        due("it is missing", yard(1).layers(0, 0, 12), 0);
        for (int length = 0; length <= 9; length++) {
            long[] row = {0, 1, 0, 0, 1, 0, 0, 1, 0};
            HayRemembers x = shelve(yard(1), 0, BYTES, Arrays.copyOf(row, length));
            due("it ends at " + length, x.layers(0, 0, 12), length / 3);
            due("those ahead came", x.of(0, HEIGHT), length / 3);
        }
        int[][] least = {{0, -1, 7, 8}, {1, 0, 9, 10}, {0, -1, 7, 8}};
        for (int part = 0; part <= 2; part++) {
            for (int v : new int[] {-128, least[part][1], least[part][0], least[part][2], least[part][3], 127}) {
                long[] row = {1, 1, 1, 2, 2, 2, 3, 3, 3};
                row[3 + part] = v;
                boolean right = v >= least[part][0] && v <= least[part][2];
                HayRemembers x = shelve(yard(1), 0, BYTES, row);
                due("one with " + v + " as its part " + part, x.layers(0, 0, 3), right ? 3 : 1);
                due("those ahead came", x.of(0, HEIGHT), right ? 3 : 1);
            }
        }
        for (int high = 9; high <= 12; high++) {
            HayRemembers x = shelve(high(high, 100), 0, BYTES, 0, 1, 0, 0, 1, 0);
            due("room on " + high, x.layers(0, 0, 2), Math.min(2, 12 - high));
            due("those ahead came", x.of(0, HEIGHT), Math.min(12, high + 2));
        }
        HayRemembers x = yard(1);
        x.row(0, BYTES, 60);
        for (int i = 1; i < 60; i += 3) {
            x.put(0, i, 9);
        }
        due("a far place", x.layers(0, GREATEST, 12), 0);
        due("a far place below", x.layers(0, LEAST, 12), 0);
        due("within the last three", x.layers(0, 58, 1), 0);
        due("the last three", x.layers(0, 57, 2), 1);
        due("until there is no room", x.layers(0, 0, 12), 11);
    }
}
