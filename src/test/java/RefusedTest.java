import java.util.function.Supplier;
import java.util.function.ToLongFunction;

/** What is refused, and what is asked in thought, changes nothing: all that can be seen is as without the call. */
public final class RefusedTest extends Sentences {
    private static final int[] NO_RICKS = {LEAST, -1, 4, GREATEST};
    private static final int[] NO_LAYERS = {LEAST, -1, 12, 15, 19, 28, 32, 47, 49, 64, 256, GREATEST};
    private static final int[] NO_SHELVES = {LEAST, -1, 6, GREATEST};
    private static final int[] FAR = {LEAST, -2, GREATEST};

    private static Supplier<HayRemembers> state;
    private static String[] looks;

    public static void main(String[] args) {
        open("Answers, of several the one named first", "======== SO THAT NOTHING");
        says(": BAD (-1): no such number, or it is not as said; NOT (-2): as told; FULL (-3); STATE (-5): as told; -11 to -14");
        due("BAD", HayRemembers.BAD, -1);
        due("NOT", HayRemembers.NOT, -2);
        due("FULL", HayRemembers.FULL, -3);
        due("STATE", HayRemembers.STATE, -5);
        says("VOID is -2000000000");
        due("VOID", HayRemembers.VOID, -2000000000);
        says("What is answered so changes nothing");
        ofNew();
        ofCommon();
        ofFull();
        says("All memory is the class's own");
        ofItsOwn();
        finish();
    }

    private static void from(Supplier<HayRemembers> made) {
        state = made;
        looks = new String[Look.PARTS];
        for (int part = 0; part < looks.length; part++) {
            looks[part] = Look.at(made.get(), part);
        }
    }

    /** A call is answered so, and then all looks as it did. */
    private static void same(String call, long want, ToLongFunction<HayRemembers> by) {
        for (int part = 0; part < looks.length; part++) {
            HayRemembers x = state.get();
            due(call, by.applyAsLong(x), want);
            dueLook("what is seen behind " + call, Look.at(x, part), looks[part]);
        }
    }

    private static void dueLook(String what, String look, String want) {
        String[] got = look.split("\n");
        String[] due = want.split("\n");
        for (int i = 0; i < Math.min(got.length, due.length); i++) {
            if (!got[i].equals(due[i])) {
                due(what + " in line " + i, got[i], due[i]);
                return;
            }
        }
        due("how much " + what, got.length, due.length);
    }

    /** A call of which the answer does not matter here. */
    private static void still(String call, ToLongFunction<HayRemembers> by) {
        same(call, by.applyAsLong(state.get()), by);
    }

    private static void ofNew() {
        from(HayRemembers::new);
        same("back()", STATE, x -> x.back());
        same("undo()", STATE, x -> x.undo());
        same("redo()", STATE, x -> x.redo());
        for (int rick = 0; rick <= 3; rick++) {
            refusedRick(rick);
        }
        for (int shelf = 0; shelf <= 5; shelf++) {
            int s = shelf;
            same("put()", MISSING, x -> x.put(s, 0, 1));
            same("element()", NO_LONG, x -> x.element(s, 0));
            same("shift()", MISSING, x -> x.shift(s, 0, s, 0, 0));
            same("taken()", MISSING, x -> x.taken(s, 0));
            same("winter()", MISSING, x -> x.winter(s, 0, 0));
        }
        same("mend() of the same", 0, x -> x.mend(0, COLD, 0));
        same("act()", 0, x -> x.act(0, 0, 1));
        same("trace()", BAD, x -> x.trace(0));
        same("keep()", BAD, x -> x.keep(0, 0));
        same("keep() of nothing", 1, x -> x.keep(0, -1));
        same("drawn()", 0, x -> x.drawn(1, 3012, -1));
    }

    /** Four ricks, some layers and changes, some of these undone, a law, an image, a tape begun, bodies, shelves. */
    private static HayRemembers common() {
        HayRemembers x = yard(4);
        layOn(x, 0, 521, 360, 912, 730, 147, 833, 264, 455, 376, 671, 752, 913);
        layOn(x, 1, 401, 247, 137);
        layOn(x, 3, 560);
        ruled(x, "f-a/9-c/3+l/4+m%2");
        x.mend(0, STAND, 30);
        x.mend(1, AGE, 25);
        x.mend(17, FORCE, 3);
        x.mend(3, DOOR, 5);
        x.day();
        x.image();
        x.cut(2);
        x.lay(0, 227);
        x.mend(0, COLD, 6);
        x.mend(0, MARK, 7);
        x.mend(16, WAY, 5);
        x.undo();
        x.undo();
        feed(x, "f+l");
        for (int kind = 0; kind <= 7; kind++) {
            x.body(kind);
        }
        x.act(5, 3, 9);
        shelve(x, 0, BYTES, 0, 17, 16, 3, 11, 48);
        shelve(x, 1, SHORTS, 140, 100, 320);
        x.keep(2, 5);
        shelve(x, 4, LONGS, 5, -6, 7);
        return x;
    }

    private static void ofCommon() {
        from(RefusedTest::common);
        for (int rick : NO_RICKS) {
            refusedRick(rick);
        }
        for (int rl : NO_LAYERS) {
            refusedLayer(rl);
        }
        for (int shelf : NO_SHELVES) {
            refusedShelf(shelf);
        }
        for (int v : FAR) {
            refusedFar(v);
        }
        refusedNumbers();
        refusedOnShelves();
        refusedByState();
        inThought();
        thatBringNothing();
    }

    private static void refusedRick(int rick) {
        same("lay(" + rick + ")", BAD, x -> x.lay(rick, 500));
        same("layers(" + rick + ")", BAD, x -> x.layers(0, 0, 100 * (rick < 0 || rick > 9999 ? -1 : rick) + 1));
        same("of(" + rick + ", 8)", BAD, x -> x.of(rick, HEIGHT));
        same("lean(" + rick + ")", VOID, x -> x.lean(rick, 0));
        same("leanThen(" + rick + ")", VOID, x -> x.leanThen(0, 1, rick, 0));
        same("order(" + rick + ")", BAD, x -> x.order(1, rick, -1));
        same("letOut(" + rick + ")", BAD, x -> x.letOut(rick, 1, -1));
        same("worth(" + rick + ")", BAD, x -> x.worth(rick, 1, -1));
        same("likely(" + rick + ")", NO_LONG, x -> x.likely(rick < 0 || rick > 9999 ? -1 : 10 * rick + 1, 1, 0));
        same("mean(" + rick + ")", NO_LONG, x -> x.mean(rick, 0));
        same("judge(" + rick + ")", BAD, x -> x.judge(0, rick));
        same("top(" + rick + ")", BAD, x -> x.top(rick, 0));
        same("youngest(" + rick + ")", BAD, x -> x.youngest(rick, 1));
        same("byTurns(" + rick + ")", BAD, x -> x.byTurns(rick, 1, 0));
        if (rick != -1) {
            same("drawn(" + rick + ")", BAD, x -> x.drawn(1, 101, rick));
        }
    }

    private static void refusedLayer(int rl) {
        same("keeps(" + rl + ")", BAD, x -> x.keeps(rl));
        same("hours(" + rl + ")", BAD, x -> x.hours(rl, 9));
        same("cut(" + rl + ")", BAD, x -> x.cut(rl));
        for (int what = WAY; what <= AGE; what++) {
            int w = what;
            same("of(" + rl + ", " + w + ")", BAD, x -> x.of(rl, w));
            same("mend(" + rl + ", " + w + ")", BAD, x -> x.mend(rl, w, 4));
        }
    }

    private static void refusedShelf(int shelf) {
        same("layers() from " + shelf, BAD, x -> x.layers(shelf, 0, 101));
        same("winter() of " + shelf, BAD, x -> x.winter(shelf, 1, 0));
        same("leanThen() of " + shelf, VOID, x -> x.leanThen(shelf, 1, 0, 0));
        same("order() of " + shelf, BAD, x -> x.order(shelf, 1, -1));
        same("judge() of " + shelf, BAD, x -> x.judge(shelf, 0));
        same("keep() on " + shelf, BAD, x -> x.keep(shelf, 1));
        same("row() on " + shelf, BAD, x -> x.row(shelf, 0, 3));
        same("put() on " + shelf, BAD, x -> x.put(shelf, 0, 3));
        same("element() of " + shelf, NO_LONG, x -> x.element(shelf, 0));
        same("shift() from " + shelf, BAD, x -> x.shift(shelf, 0, 0, 1, 1));
        same("shift() to " + shelf, BAD, x -> x.shift(0, 0, shelf, 1, 1));
        same("taken() of " + shelf, BAD, x -> x.taken(shelf, 0));
    }

    /** What no call takes in any place but where numbers are free. */
    private static void refusedFar(int v) {
        same("lay(0, " + v + ")", BAD, x -> x.lay(0, v));
        same("layers(0, 0, " + v + ")", BAD, x -> x.layers(0, 0, v));
        for (int what = WAY; what <= DOOR; what++) {
            int w = what;
            same("mend(0, " + w + ", " + v + ")", BAD, x -> x.mend(0, w, v));
        }
        same("mend(0, " + v + ", 1)", BAD, x -> x.mend(0, v, 1));
        same("of(0, " + v + ")", BAD, x -> x.of(0, v));
        same("feed(" + v + ")", BAD, x -> x.feed(v));
        same("lean(0, " + v + ")", VOID, x -> x.lean(0, v));
        same("winter(0, " + v + ", 0)", BAD, x -> x.winter(0, v, 0));
        same("winter(0, 1, " + v + ")", BAD, x -> x.winter(0, 1, v));
        same("leanThen(0, " + v + ", 0, 0)", VOID, x -> x.leanThen(0, v, 0, 0));
        same("leanThen(0, 1, 0, " + v + ")", VOID, x -> x.leanThen(0, 1, 0, v));
        same("order(1, 1, " + v + ")", v < 0 ? BAD : NOT, x -> x.order(1, 1, v));
        same("letOut(0, " + v + ", 0)", BAD, x -> x.letOut(0, v, 0));
        same("letOut(0, 1, " + v + ")", v < 0 ? BAD : NOT, x -> x.letOut(0, 1, v));
        same("worth(0, " + v + ", -1)", BAD, x -> x.worth(0, v, -1));
        same("worth(0, 1, " + v + ")", BAD, x -> x.worth(0, 1, v));
        same("likely(" + v + ", 1, 0)", NO_LONG, x -> x.likely(v, 1, 0));
        same("likely(1, " + v + ", 0)", NO_LONG, x -> x.likely(1, v, 0));
        same("likely(1, 1, " + v + ")", NO_LONG, x -> x.likely(1, 1, v));
        same("mean(0, " + v + ")", NO_LONG, x -> x.mean(0, v));
        same("top(0, " + v + ")", BAD, x -> x.top(0, v));
        same("hours(0, " + v + ")", BAD, x -> x.hours(0, v));
        same("youngest(0, " + v + ")", BAD, x -> x.youngest(0, v));
        same("byTurns(1, " + v + ", 0)", BAD, x -> x.byTurns(1, v, 0));
        same("byTurns(1, 1, " + v + ")", BAD, x -> x.byTurns(1, 1, v));
        same("drawn(1, " + v + ", 0)", BAD, x -> x.drawn(1, v, 0));
        same("drawn(1, 101, " + v + ")", BAD, x -> x.drawn(1, 101, v));
        same("led(" + v + ")", BAD, x -> x.led(v));
        same("body(" + v + ")", BAD, x -> x.body(v));
        same("trace(" + v + ")", BAD, x -> x.trace(v));
        same("keep(0, " + v + ")", BAD, x -> x.keep(0, v));
        same("row(0, " + v + ", 1)", BAD, x -> x.row(0, v, 1));
        same("row(0, 0, " + v + ")", v < 0 ? NO_SIZE : BAD, x -> x.row(0, 0, v));
        same("put(0, " + v + ", 1)", NO_PLACE, x -> x.put(0, v, 1));
        same("element(0, " + v + ")", NO_LONG, x -> x.element(0, v));
        same("shift(0, " + v + ", 0, 1, 1)", NO_PLACE, x -> x.shift(0, v, 0, 1, 1));
        same("shift(0, 0, 0, " + v + ", 1)", NO_PLACE, x -> x.shift(0, 0, 0, v, 1));
        same("shift(0, 0, 0, 1, " + v + ")", NO_PLACE, x -> x.shift(0, 0, 0, 1, v));
        same("taken(2, " + v + ")", BAD, x -> x.taken(2, v));
        same("count(" + v + ")", BAD, x -> x.count(v));
    }

    /** One beyond the greatest, one below the least. */
    private static void refusedNumbers() {
        int[][] mends = {{0, WAY, 8}, {0, WAY, -1}, {0, FORCE, 10}, {0, FORCE, 0}, {0, MARK, 8}, {0, MARK, -1},
            {0, AGE, 100}, {0, AGE, -1}, {0, COLD, 10}, {0, COLD, -1}, {0, STAND, 100}, {0, STAND, -1}, {0, DAY, 100},
            {0, DAY, -1}, {0, DOOR, 10}, {0, DOOR, 0}, {8, DOOR, 5}, {-1, DOOR, 5}, {1, COLD, 5}, {1, STAND, 5},
            {1, DAY, 5}, {-1, COLD, 5}, {0, HEIGHT, 5}, {0, 9, 5}, {0, -1, 5}};
        for (int[] m : mends) {
            same("mend(" + m[0] + ", " + m[1] + ", " + m[2] + ")", BAD, x -> x.mend(m[0], m[1], m[2]));
        }
        for (int wfm : new int[] {0, 77, 99, 108, 109, 180, 198, 978, 980, 999, 1000, -100, -500}) {
            same("lay(1, " + wfm + ")", BAD, x -> x.lay(1, wfm));
        }
        for (int rn : new int[] {-1, 0, 13, 99, 100, 113, 199, 400, 401}) {
            same("layers(0, 0, " + rn + ")", BAD, x -> x.layers(0, 0, rn));
        }
        same("feed(256)", BAD, x -> x.feed(256));
        same("feed(-1)", BAD, x -> x.feed(-1));
        same("winter(0, 25, 0)", BAD, x -> x.winter(0, 25, 0));
        same("letOut(0, 8, 0)", BAD, x -> x.letOut(0, 8, 0));
        same("letOut(0, 0, 0)", BAD, x -> x.letOut(0, 0, 0));
        same("worth(0, 5, 0)", BAD, x -> x.worth(0, 5, 0));
        same("worth(0, 4, 4)", BAD, x -> x.worth(0, 4, 4));
        same("byTurns(1, 5, 0)", BAD, x -> x.byTurns(1, 5, 0));
        same("byTurns(1, 0, 0)", BAD, x -> x.byTurns(1, 0, 0));
        same("drawn(1, 3013, 0)", BAD, x -> x.drawn(1, 3013, 0));
        same("drawn(1, 3101, 0)", BAD, x -> x.drawn(1, 3101, 0));
        same("drawn(1, 100, 0)", BAD, x -> x.drawn(1, 100, 0));
        same("led(5)", BAD, x -> x.led(5));
        same("body(8)", BAD, x -> x.body(8));
        same("trace(10)", BAD, x -> x.trace(10));
        same("keep(0, 8)", BAD, x -> x.keep(0, 8));
        same("row(0, 5, 1)", BAD, x -> x.row(0, 5, 1));
        same("row(0, 0, 61)", BAD, x -> x.row(0, 0, 61));
        same("row(0, 0, -1)", NO_SIZE, x -> x.row(0, 0, -1));
        same("taken(2, 8)", BAD, x -> x.taken(2, 8));
        same("count(6)", BAD, x -> x.count(6));
    }

    private static void refusedOnShelves() {
        same("layers() from shorts", UNLIKE, x -> x.layers(1, 0, 101));
        same("layers() from a body", UNLIKE, x -> x.layers(2, 0, 101));
        same("winter() of shorts", UNLIKE, x -> x.winter(1, 1, 0));
        same("winter() of nothing", MISSING, x -> x.winter(3, 1, 0));
        same("leanThen() of a body", VOID, x -> x.leanThen(2, 1, 0, 0));
        same("leanThen() of nothing", VOID, x -> x.leanThen(3, 1, 0, 0));
        same("order() of bytes", UNLIKE, x -> x.order(0, 1, -1));
        same("order() of nothing", MISSING, x -> x.order(3, 1, -1));
        same("judge() by longs", UNLIKE, x -> x.judge(4, 0));
        same("judge() by nothing", MISSING, x -> x.judge(3, 0));
        same("put() on nothing", MISSING, x -> x.put(3, 0, 1));
        same("put() on a body", UNLIKE, x -> x.put(2, 0, 1));
        same("put() behind the end", NO_PLACE, x -> x.put(0, 6, 1));
        same("put() ahead of it", NO_PLACE, x -> x.put(0, -1, 1));
        same("shift() to nothing", MISSING, x -> x.shift(0, 0, 3, 0, 1));
        same("shift() from nothing", MISSING, x -> x.shift(3, 0, 0, 0, 1));
        same("shift() to a body", UNLIKE, x -> x.shift(0, 0, 2, 0, 1));
        same("shift() from a body", UNLIKE, x -> x.shift(2, 0, 0, 0, 1));
        same("shift() to another sort", UNLIKE, x -> x.shift(0, 0, 1, 0, 1));
        same("shift() of too many", NO_PLACE, x -> x.shift(0, 1, 0, 0, 6));
        same("shift() to too few", NO_PLACE, x -> x.shift(0, 0, 0, 1, 6));
        same("shift() of -1", NO_PLACE, x -> x.shift(0, 1, 0, 0, -1));
        same("taken() of nothing", MISSING, x -> x.taken(3, 0));
        same("taken() of a row", UNLIKE, x -> x.taken(0, 0));
        same("taken() for another kind", UNLIKE, x -> x.taken(2, 1));
    }

    private static void refusedByState() {
        same("rick()", FULL, x -> x.rick());
        same("lay()", FULL, x -> x.lay(0, 500));
        same("order() without room", NOT, x -> x.order(1, 0, -1));
        same("order() without a k-th", NOT, x -> x.order(1, 1, 3));
        same("letOut() of what is not there", NOT, x -> x.letOut(1, 5, -1));
        same("letOut() of no LAYERS", NOT, x -> x.letOut(2, 1, -1));
        same("worth() of too few", NOT, x -> x.worth(1, 4, -1));
        same("youngest() of no LAYERS", NOT, x -> x.youngest(2, 1));
        same("byTurns() without room", NOT, x -> x.byTurns(0, 1, 0));
        same("top() of no LAYERS", NOT, x -> x.top(2, 1));
    }

    private static void inThought() {
        for (int what = 0; what <= 4; what++) {
            int w = what;
            still("winter()", x -> x.winter(0, 6, w));
            still("led()", x -> x.led(w));
            still("count()", x -> x.count(w));
        }
        for (int rick = 0; rick <= 3; rick++) {
            int r = rick;
            still("keeps()", x -> x.keeps(16 * r));
            still("lean()", x -> x.lean(r, 2));
            still("leanThen()", x -> x.leanThen(0, 6, r, 0));
            still("order()", x -> x.order(1, r, -1));
            still("letOut()", x -> x.letOut(r, 7, -1));
            still("worth()", x -> x.worth(r, 3, -1));
            still("likely()", x -> x.likely(10 * r + 1, 2, 0));
            still("mean()", x -> x.mean(r, 0));
            still("judge()", x -> x.judge(0, r));
            still("top()", x -> x.top(r, 2));
            still("hours()", x -> x.hours(16 * r, 50));
            still("youngest()", x -> x.youngest(r, 50));
            still("byTurns()", x -> x.byTurns(r, 4, 0));
            still("drawn()", x -> x.drawn(7, 3012, r));
        }
        still("of()", x -> x.of(0, AGE));
        still("trace()", x -> x.trace(3));
        still("element()", x -> x.element(4, 1));
        still("taken()", x -> x.taken(2, 3));
    }

    /** Calls that are not refused and yet bring nothing. */
    private static void thatBringNothing() {
        same("layers() from nothing", 0, x -> x.layers(3, 0, 101));
        same("layers() without room", 0, x -> x.layers(0, 0, 1));
        same("layers() of no layer", 0, x -> x.layers(0, 0, 101));
        same("layers() behind the end", 0, x -> x.layers(0, 4, 101));
        same("layers() from a far place", 0, x -> x.layers(0, GREATEST, 101));
        same("layers() from below 0", 0, x -> x.layers(0, -1, 101));
        same("layers() from the least", 0, x -> x.layers(0, LEAST, 101));
        same("mend() of the same AGE", 26, x -> x.mend(1, AGE, 26));
        same("mend() of the same STAND", 30, x -> x.mend(0, STAND, 30));
        same("mend() of the same DOOR", 5, x -> x.mend(3, DOOR, 5));
        same("mend() of the same DAY", 1, x -> x.mend(0, DAY, 1));
        same("mend() of the same COLD", 6, x -> x.mend(0, COLD, 6));
        same("shift() of none", 0, x -> x.shift(0, 6, 0, 0, 0));
        same("shift() to its own place", 6, x -> x.shift(0, 0, 0, 0, 6));
        same("keep() of the same", 1, x -> x.keep(2, 5));
    }

    /** All that can be full is full. */
    private static HayRemembers full() {
        HayRemembers x = yard(4);
        x.row(0, BYTES, 36);
        for (int i = 1; i < 36; i += 3) {
            x.put(0, i, 1 + i / 3 % 9);
        }
        for (int rick = 0; rick <= 3; rick++) {
            x.layers(0, 0, 100 * rick + 12);
        }
        feed(x, "f+0+".repeat(30));
        for (int i = 0; i < 50; i++) {
            x.body(i % 8);
        }
        for (int i = 0; i < 41; i++) {
            x.mend(0, AGE, 1 + i);
        }
        return x;
    }

    private static void ofFull() {
        from(RefusedTest::full);
        same("rick()", FULL, x -> x.rick());
        for (int rick = 0; rick <= 3; rick++) {
            int r = rick;
            same("lay()", FULL, x -> x.lay(r, 500));
            same("layers()", 0, x -> x.layers(0, 0, 100 * r + 12));
            same("byTurns()", NOT, x -> x.byTurns(r, 1, 0));
        }
        same("feed()", FULL, x -> x.feed('f'));
        same("feed(256)", BAD, x -> x.feed(256));
        same("body()", FULL, x -> x.body(0));
        same("body(8)", BAD, x -> x.body(8));
        same("keep(1, 50)", BAD, x -> x.keep(1, 50));
        same("act(50)", 0, x -> x.act(50, 0, 1));
        same("redo()", STATE, x -> x.redo());
        same("back()", STATE, x -> x.back());
        same("mend() of the same", 41, x -> x.mend(0, AGE, 41));
    }

    /** What one yard is told, another does not know. */
    private static void ofItsOwn() {
        for (int part = 0; part < Look.PARTS; part++) {
            HayRemembers first = common();
            HayRemembers other = full();
            first.act(7, 1, 3);
            other.cut(0);
            other.day();
            other.image();
            tell(other, "9");
            other.act(4, 3, 3);
            HayRemembers alone = common();
            alone.act(7, 1, 3);
            dueLook("one beside another", Look.at(first, part), Look.at(alone, part));
        }
    }
}
