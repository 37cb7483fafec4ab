/** Each promise's least and greatest, one beyond each, and its refusals in their order. */
public final class PromisesEdgesTest extends Sentences {
    public static void main(String[] args) {
        newObject();
        rick();
        lay();
        layers();
        mend();
        of();
        feed();
        law();
        keeps();
        lean();
        winter();
        leanThen();
        order();
        letOut();
        worth();
        likely();
        mean();
        judge();
        top();
        hours();
        youngest();
        byTurns();
        drawn();
        cut();
        day();
        led();
        image();
        back();
        undo();
        redo();
        body();
        act();
        trace();
        keep();
        row();
        put();
        element();
        shift();
        taken();
        count();
        lastCall();
        finish();
    }

    /** So many ricks, all full, and shelves with bytes, shorts, a body, nothing. */
    private static HayRemembers filled(int ricks) {
        HayRemembers x = yard(ricks);
        for (int i = 0; i < 12 * ricks; i++) {
            x.lay(i / 12, 147);
        }
        x.mend(0, STAND, 99);
        shelve(x, 0, BYTES, 4, 1, 0);
        shelve(x, 1, SHORTS, 100, 140);
        return embody(x, 2);
    }

    /** A call takes the RICKS that are there, and no others. */
    private static void takesRicks(long refusal, Call call) {
        for (int ricks = 0; ricks <= 4; ricks++) {
            int n = ricks;
            takes("RICK of " + n, 0, n - 1, refusal, () -> filled(n), call);
        }
    }

    /** A call takes all LAYERS of all RICKS, and no others. */
    private static void takesLayers(long refusal, Call call) {
        for (int rl = -20; rl <= 100; rl++) {
            boolean there = rl >= 0 && rl <= 63 && rl % 16 <= 11;
            long got = call.by(filled(4), rl);
            due("number " + rl, got == refusal ? refusal : 0, there ? 0 : refusal);
        }
        for (int rl : new int[] {LEAST, GREATEST, 16 * 10000, -16}) {
            due("number " + rl, call.by(filled(4), rl), refusal);
        }
        due("number 0 of no LAYERS", call.by(yard(4), 0), refusal);
        due("number 1 of one LAYER", call.by(rickOf(500), 1), refusal);
        due("number 16 of one RICK", call.by(filled(1), 16), refusal);
    }

    private static void takesShelves(long refusal, int sort, Call call) {
        takes("SHELF", 0, 5, refusal, () -> {
            HayRemembers x = filled(1);
            for (int shelf = 0; shelf <= 5; shelf++) {
                shelve(x, shelf, sort, 100, 100);
            }
            return x;
        }, call);
    }

    private static void lastCall() {
        open("and each hour and knife led.", "## The public face");
        says("An object is used for at most 512 calls after it has been made; what later calls answer is free.");
        HayRemembers days = new HayRemembers();
        for (int i = 1; i <= 511; i++) {
            due("day()", days.day(), Math.min(99, i));
        }
        due("the 512th, of days", days.led(4), 511);
        HayRemembers layers = yard(1);
        for (int i = 1; i <= 510; i++) {
            due("lay(), cut()", i % 2 == 1 ? layers.lay(0, 900) : layers.cut(0), i % 2 == 1 ? 0 : 9);
        }
        due("the 512th, of LAYERS", layers.led(2), 255 * 9);
        // a yard of one LAYER has had two calls
        HayRemembers images = rickOf(500);
        HayRemembers changes = rickOf(500);
        for (int i = 1; i <= 509; i++) {
            due("image(), back()", i % 2 == 1 ? images.image() : images.back(), 0);
            due("mend()", changes.mend(0, AGE, i % 2), 1 - i % 2);
        }
        due("the 512th, of an IMAGE", images.of(0, FORCE), 5);
        due("the 512th, of CHANGES", changes.undo(), 39);
        HayRemembers bodies = new HayRemembers();
        for (int i = 1; i <= 511; i++) {
            due("body()", bodies.body(5), i <= 50 ? i - 1 : FULL);
        }
        due("the 512th, of BODIES", bodies.act(49, 2, 1), (1 ^ 49) * 3 - 51);
    }

    private static void newObject() {
        promise(1);
        says("A yard, no ricks.");
        HayRemembers x = new HayRemembers();
        for (int what = 0; what <= 5; what++) {
            due("count(" + what + ")", x.count(what), 0);
        }
        for (int what = 0; what <= 4; what++) {
            due("led(" + what + ")", x.led(what), 0);
        }
        due("COLD", x.of(0, COLD), 0);
        due("STAND", x.of(0, STAND), 20);
        due("DAY", x.of(0, DAY), 0);
        for (int way = 0; way <= 7; way++) {
            due("DOOR", x.of(way, DOOR), 9);
        }
        for (int shelf = 0; shelf <= 5; shelf++) {
            due("a SHELF", x.taken(shelf, 0), MISSING);
        }
        due("no IMAGE", x.back(), STATE);
        due("no LAW", layOn(yard(1), 0, 700).keeps(0), 7);
    }

    private static void rick() {
        promise(2);
        says("An empty RICK: its number.");
        HayRemembers x = new HayRemembers();
        for (int i = 0; i <= 3; i++) {
            due("rick()", x.rick(), i);
            due("it is empty", x.of(i, HEIGHT), 0);
            due("how many", x.count(0), i + 1);
        }
        says("FULL: 4.");
        due("a fifth", x.rick(), FULL);
        due("a sixth", x.rick(), FULL);
        due("how many", x.count(0), 4);
        due("no RICK 4", x.of(4, HEIGHT), BAD);
        x.image();
        x.back();
        due("behind back()", x.rick(), FULL);
    }

    private static void lay() {
        promise(3);
        says("A LAYER is LAID (wfm: 100 times FORCE, 10 times WAY, and MARK): its number.");
        takesRicks(BAD, (x, v) -> x.lay(v, 500));
        for (int wfm = -200; wfm <= 1200; wfm++) {
            boolean right = wfm >= 100 && wfm <= 999 && wfm / 10 % 10 <= 7 && wfm % 10 <= 7;
            HayRemembers x = yard(1);
            due("lay(0, " + wfm + ")", x.lay(0, wfm), right ? 0 : BAD);
            due("its FORCE", x.of(0, FORCE), right ? wfm / 100 : BAD);
            due("its WAY", x.of(0, WAY), right ? wfm / 10 % 10 : BAD);
            due("its MARK", x.of(0, MARK), right ? wfm % 10 : BAD);
            due("its AGE", x.of(0, AGE), right ? 0 : BAD);
            due("LED", x.led(0), right ? 1 : 0);
        }
        for (int wfm : new int[] {LEAST, GREATEST, 65536 + 500, 10500}) {
            due("lay(0, " + wfm + ")", yard(1).lay(0, wfm), BAD);
        }
        says("BAD, FULL: 12.");
        HayRemembers x = yard(2);
        for (int i = 0; i <= 11; i++) {
            due("lay()", x.lay(1, 900), i);
        }
        due("a thirteenth", x.lay(1, 900), FULL);
        due("BAD ahead of FULL", x.lay(1, 980), BAD);
        due("LED", x.led(0), 12);
        due("the other RICK is not full", x.lay(0, 900), 0);
        x.cut(16);
        due("room again", x.lay(1, 900), 11);
    }

    private static void layers() {
        promise(4);
        says("LAYERS FROM A ROW on a SHELF, from place i on, n (1 .. 12) of them (rn: 100 times the RICK, and n): how many came (LED as LAID).");
        takesShelves(BAD, BYTES, (x, v) -> x.layers(v, 0, 1));
        for (int ricks = 0; ricks <= 4; ricks++) {
            for (int rn = -120; rn <= 520; rn++) {
                HayRemembers x = yard(ricks);
                x.row(0, BYTES, 60);
                x.put(0, 1, 5);
                boolean right = rn >= 0 && rn / 100 < ricks && rn % 100 >= 1 && rn % 100 <= 12;
                due("layers(0, 0, " + rn + ") of " + ricks, x.layers(0, 0, rn), right ? 1 : BAD);
                due("LED", x.led(0), right ? 1 : 0);
            }
        }
        for (int rn : new int[] {LEAST, -100 * 1000 + 1, GREATEST, 100 * 65536 + 1}) {
            due("rn " + rn, shelve(yard(4), 0, BYTES, 1, 1, 1).layers(0, 0, rn), BAD);
        }
        HayRemembers x = yard(4);
        x.row(0, BYTES, 36);
        for (int i = 1; i < 36; i += 3) {
            x.put(0, i, 3);
        }
        due("twelve", x.layers(0, 0, 312), 12);
        due("eleven", x.layers(0, 3, 112), 11);
        due("one", x.layers(0, 35 - 2, 112), 1);
        due("LED", x.led(0), 24);
        says("BAD, -12 (no ROW of bytes; a SHELF that holds nothing is missing).");
        for (int sort = SHORTS; sort <= BOOLEANS; sort++) {
            due("a ROW of " + sort, shelve(yard(1), 0, sort, 1, 1, 1).layers(0, 0, 1), UNLIKE);
        }
        due("a BODY", embody(yard(1), 0).layers(0, 0, 1), UNLIKE);
        due("nothing", yard(1).layers(0, 0, 1), 0);
        due("BAD ahead of -12", embody(yard(1), 0).layers(0, 0, 13), BAD);
        due("BAD ahead of -12", embody(yard(1), 0).layers(0, 0, 101), BAD);
        due("BAD ahead of what is missing", yard(1).layers(0, 0, 0), BAD);
        due("-12 on a full RICK", embody(high(12, 100), 0).layers(0, 0, 1), UNLIKE);
    }

    private static void mend() {
        promise(5);
        says("WAY (what 0), FORCE (1), MARK (2), AGE (3) of a LAYER (number rl), COLD (4), STAND (5), DAY (6; number 0), "
            + "DOOR (7) of a WAY becomes v: what it was.");
        int[] least = {0, 1, 0, 0, 0, 0, 0, 1};
        int[] most = {7, 9, 7, 99, 9, 99, 99, 9};
        int[] was = {4, 1, 7, 0, 0, 99, 0, 9};
        for (int what = WAY; what <= DOOR; what++) {
            int w = what;
            takes("v of " + w, least[w], most[w], BAD, () -> filled(1), (x, v) -> x.mend(0, w, v));
            for (int v : new int[] {least[w], most[w]}) {
                HayRemembers x = filled(1);
                due("what it was, " + w, x.mend(0, w, v), was[w]);
                due("what it is, " + w, x.of(0, w), v);
                due("what it was then, " + w, x.mend(0, w, least[w]), v);
            }
        }
        for (int what = WAY; what <= AGE; what++) {
            int w = what;
            takesLayers(BAD, (x, v) -> x.mend(v, w, 5));
        }
        for (int what = COLD; what <= DAY; what++) {
            int w = what;
            takes("number of " + w, 0, 0, BAD, () -> filled(4), (x, v) -> x.mend(v, w, 5));
        }
        takes("number of a DOOR", 0, 7, BAD, HayRemembers::new, (x, v) -> x.mend(v, DOOR, 5));
        says("BAD.");
        takes("what", 0, 7, BAD, () -> filled(1), (x, v) -> x.mend(0, v, 5));
        HayRemembers x = filled(1);
        due("HEIGHT", x.mend(0, HEIGHT, 5), BAD);
        due("none is a change", x.mend(0, FORCE, 10) + x.mend(99, FORCE, 5) + x.mend(0, 9, 5) + x.count(3), 3 * BAD + 1);
    }

    private static void of() {
        promise(6);
        says("As of mend() (0 to 7); of a RICK 8 how many LAYERS.");
        for (int what = WAY; what <= AGE; what++) {
            int w = what;
            takesLayers(BAD, (x, v) -> x.of(v, w));
        }
        for (int what = COLD; what <= DAY; what++) {
            int w = what;
            takes("number of " + w, 0, 0, BAD, () -> filled(4), (x, v) -> x.of(v, w));
        }
        takes("number of a DOOR", 0, 7, BAD, HayRemembers::new, (x, v) -> x.of(v, DOOR));
        takesRicks(BAD, (x, v) -> x.of(v, HEIGHT));
        for (int high = 0; high <= 12; high++) {
            due("how many", high(high, 100).of(0, HEIGHT), high);
        }
        says("BAD.");
        takes("what", 0, 8, BAD, () -> filled(1), (x, v) -> x.of(0, v));
        for (int what = WAY; what <= AGE; what++) {
            due("of no LAYER", yard(1).of(0, what), BAD);
        }
    }

    private static void feed() {
        promise(7);
        says("A byte (0 .. 255) comes to THE TAPE: how many it has.");
        takes("byte", 0, 255, BAD, HayRemembers::new, (x, v) -> x.feed(v));
        HayRemembers x = new HayRemembers();
        for (int i = 1; i <= 120; i++) {
            due("feed()", x.feed(i * 2 % 256), i);
            due("how many", x.count(2), i);
        }
        says("BAD, FULL (120).");
        due("the 121st", x.feed(0), FULL);
        due("the 122nd", x.feed(255), FULL);
        due("BAD ahead of FULL", x.feed(256), BAD);
        due("BAD ahead of FULL", x.feed(-1), BAD);
        due("how many", x.count(2), 120);
        x.law();
        due("room again", x.feed('1'), 1);
    }

    private static void law() {
        promise(8);
        says("THE TAPE becomes THE LAW: 1; -100 less its FAULT; THE TAPE is empty then.");
        HayRemembers x = rickOf(900);
        due("none", x.law(), -100);
        due("a law", tell(x, "4"), 1);
        due("THE TAPE is empty", x.count(2), 0);
        due("by it", x.keeps(0), 4);
        due("none again", x.law(), -100);
        due("still by it", x.keeps(0), 4);
        for (int fault = 0; fault <= 119; fault++) {
            HayRemembers y = rickOf(900);
            due("a FAULT at " + fault, tell(y, "0+".repeat(fault / 2) + (fault % 2 == 0 ? "x" : "1x")), -100 - fault);
            due("THE TAPE is empty", y.count(2), 0);
            due("no LAW", y.keeps(0), 9);
        }
        due("the farthest FAULT", tell(new HayRemembers(), "0+".repeat(60)), -220);
        due("of 120 that are right", tell(new HayRemembers(), "0+".repeat(59) + "00"), 1);
    }

    private static void keeps() {
        promise(9);
        says("How much a LAYER KEEPS.");
        takesLayers(BAD, (x, v) -> x.keeps(v));
        for (int force = 1; force <= 9; force++) {
            due("FORCE " + force, rickOf(100 * force).keeps(0), force);
        }
        due("nothing", mend(rickOf(900), 0, AGE, 99).keeps(0), 0);
        says("BAD.");
        due("no RICKS", new HayRemembers().keeps(0), BAD);
        HayRemembers x = rickOf(900);
        x.cut(0);
        due("one that is gone", x.keeps(0), BAD);
    }

    private static void lean() {
        promise(10);
        says("LEAN of X (what 0), of Y (1), whether it STANDS (2).");
        HayRemembers x = mend(rickOf(910), 0, STAND, 9);
        due("X", x.lean(0, 0), 9);
        due("Y", x.lean(0, 1), -9);
        due("it STANDS", x.lean(0, 2), 1);
        x.mend(0, STAND, 8);
        due("it falls", x.lean(0, 2), 0);
        says("VOID: BAD.");
        takesRicks(VOID, (y, v) -> y.lean(v, 0));
        takes("what", 0, 2, VOID, () -> rickOf(910), (y, v) -> y.lean(0, v));
    }

    private static void winter() {
        promise(11);
        says("Of a WINTER's first n (0 .. 24): how many (what 0), FORCE (1), the first that took a DOOR (2; NOT), "
            + "the first behind which it did not STAND (3; NOT), MARKS (4: bits).");
        takesShelves(BAD, BYTES, (x, v) -> x.winter(v, 1, 0));
        takes("n", 0, 24, BAD, () -> filled(1), (x, v) -> x.winter(0, v, 0));
        takes("what", 0, 4, BAD, () -> filled(1), (x, v) -> x.winter(0, 24, v));
        HayRemembers x = shelve(mend(rickOf(927, 960), 0, STAND, 8), 0, BYTES, 1, 0);
        int[] none = {0, 0, NOT, NOT, 0};
        int[] one = {1, 9, 0, 0, 0};
        int[] both = {2, 18, 0, 0, 128};
        for (int what = 0; what <= 4; what++) {
            due("of none, " + what, x.winter(0, 0, what), none[what]);
            due("of one, " + what, x.winter(0, 1, what), one[what]);
            due("of both, " + what, x.winter(0, 2, what), both[what]);
            due("of 24, " + what, x.winter(0, 24, what), both[what]);
        }
        says("BAD, -11, -12 (no ROW of bytes).");
        due("nothing", x.winter(5, 24, 0), MISSING);
        due("BAD ahead of -11", x.winter(5, 25, 0), BAD);
        due("BAD ahead of -11", x.winter(5, 24, 5), BAD);
        for (int sort = SHORTS; sort <= BOOLEANS; sort++) {
            due("a ROW of " + sort, shelve(x, 1, sort, 0).winter(1, 24, 0), UNLIKE);
            due("BAD ahead of -12", x.winter(1, -1, 0), BAD);
            due("BAD ahead of -12", x.winter(1, 1, -1), BAD);
        }
        due("a BODY", embody(x, 2).winter(2, 24, 0), UNLIKE);
        due("no RICKS", shelve(new HayRemembers(), 0, BYTES, 0).winter(0, 24, 0), 0);
    }

    private static void leanThen() {
        promise(12);
        says("LEAN of X (what 0), of Y (1) of a RICK then.");
        HayRemembers x = shelve(layOn(rickOf(910, 230), 0, 440), 0, BYTES, 2, 0);
        due("X of none", x.leanThen(0, 0, 0, 0), 11);
        due("Y of none", x.leanThen(0, 0, 0, 1), -9 + 2 + 4);
        due("Y of one", x.leanThen(0, 1, 0, 1), -7);
        due("X of 24", x.leanThen(0, 24, 0, 0), 2);
        due("Y of 24", x.leanThen(0, 24, 0, 1), 2);
        says("VOID: BAD, no ROW of bytes.");
        takesShelves(VOID, BYTES, (y, v) -> y.leanThen(v, 1, 0, 0));
        takes("n", 0, 24, VOID, () -> filled(1), (y, v) -> y.leanThen(0, v, 0, 0));
        takesRicks(VOID, (y, v) -> y.leanThen(0, 1, v, 0));
        takes("what", 0, 1, VOID, () -> filled(1), (y, v) -> y.leanThen(0, 1, 0, v));
        for (int sort = SHORTS; sort <= BOOLEANS; sort++) {
            due("a ROW of " + sort, shelve(rickOf(100), 0, sort, 0).leanThen(0, 0, 0, 0), VOID);
        }
        due("a BODY", embody(rickOf(100), 0).leanThen(0, 0, 0, 0), VOID);
        due("nothing", rickOf(100).leanThen(0, 0, 0, 0), VOID);
    }

    private static void order() {
        promise(13);
        says("LAY: that (k -1), the k-th (NOT: there are not as many, too).");
        HayRemembers x = shelve(yard(1), 0, SHORTS, 900, 240);
        due("that", x.order(0, 0, -1), 7);
        due("the first", x.order(0, 0, 0), 1);
        due("the second", x.order(0, 0, 1), 0);
        due("no third", x.order(0, 0, 2), NOT);
        due("a far one", x.order(0, 0, GREATEST), NOT);
        says("BAD, -11, -12 (no ROW of shorts); STATE; NOT.");
        takesShelves(BAD, SHORTS, (y, v) -> y.order(v, 0, -1));
        takesRicks(BAD, (y, v) -> y.order(1, v, -1));
        due("k -2", x.order(0, 0, -2), BAD);
        due("k least", x.order(0, 0, LEAST), BAD);
        due("nothing", x.order(5, 0, -1), MISSING);
        due("BAD ahead of -11", x.order(5, 1, -1), BAD);
        due("BAD ahead of -11", x.order(5, 0, -2), BAD);
        due("-11 ahead of NOT", x.order(5, 0, 9), MISSING);
        for (int sort = BYTES; sort <= BOOLEANS; sort++) {
            HayRemembers y = shelve(yard(1), 0, sort, 100);
            due("a ROW of " + sort, y.order(0, 0, -1), sort == SHORTS ? 1 : UNLIKE);
            due("BAD ahead of -12", y.order(0, 0, -2), BAD);
            due("-12 ahead of NOT", y.order(0, 0, 9), sort == SHORTS ? NOT : UNLIKE);
        }
        due("a BODY", embody(yard(1), 0).order(0, 0, -1), UNLIKE);
        HayRemembers eight = shelve(high(12, 100), 0, SHORTS, 100, 100, 100, 100, 100, 100, 100, 100);
        due("STATE ahead of NOT", eight.order(0, 0, -1), STATE);
        due("STATE ahead of NOT", eight.order(0, 0, 8), STATE);
        due("BAD ahead of STATE", eight.order(0, 0, -2), BAD);
        due("BAD ahead of STATE", eight.order(0, 1, -1), BAD);
    }

    private static void letOut() {
        promise(14);
        says("LET OUT a MARK: how many (k -1), the k-th.");
        HayRemembers x = mend(rickOf(960, 925, 960), 0, STAND, 9);
        due("how many", x.letOut(0, 5, -1), 2);
        due("the first", x.letOut(0, 5, 0), 0);
        due("the second", x.letOut(0, 5, 1), 1);
        due("no third", x.letOut(0, 5, 2), NOT);
        says("BAD; NOT.");
        takesRicks(BAD, (y, v) -> y.letOut(v, 7, -1));
        takes("MARK", 1, 7, BAD, () -> filled(1), (y, v) -> y.letOut(0, v, -1));
        due("k -2", x.letOut(0, 5, -2), BAD);
        due("k least", x.letOut(0, 5, LEAST), BAD);
        due("k greatest", x.letOut(0, 5, GREATEST), NOT);
        due("BAD ahead of NOT", x.letOut(0, 8, 2), BAD);
        due("BAD ahead of NOT", x.letOut(0, 1, -2), BAD);
        due("not there", x.letOut(0, 1, -1), NOT);
    }

    private static void worth() {
        promise(15);
        says("WORTH of t: that (k -1), the k-th (k 0 .. t less 1).");
        for (int t = 0; t <= 4; t++) {
            int n = t;
            due("that of " + t, filled(1).worth(0, t, -1), t);
            takes("k of " + t, -1, t - 1, BAD, () -> filled(1), (x, v) -> x.worth(0, n, v));
        }
        says("BAD; NOT.");
        takesRicks(BAD, (x, v) -> x.worth(v, 1, -1));
        takes("t", 0, 4, BAD, () -> filled(1), (x, v) -> x.worth(0, v, -1));
        HayRemembers x = rickOf(500, 600, 700);
        due("NOT", x.worth(0, 4, -1), NOT);
        due("NOT, of its first", x.worth(0, 4, 0), NOT);
        due("NOT, of its last", x.worth(0, 4, 3), NOT);
        due("BAD ahead of NOT", x.worth(0, 4, 4), BAD);
        due("BAD ahead of NOT", x.worth(0, 4, -2), BAD);
        due("BAD ahead of NOT", x.worth(0, 5, 0), BAD);
        due("as many as it has", x.worth(0, 3, -1), 18);
        due("none of none", yard(1).worth(0, 0, -1), 0);
        due("one of none", yard(1).worth(0, 1, -1), NOT);
    }

    private static void likely() {
        promise(16);
        says("LIKELY (rm: 10 times the RICK, and MARK 1 .. 7).");
        for (int ricks = 0; ricks <= 4; ricks++) {
            for (int rm = -20; rm <= 60; rm++) {
                boolean right = rm >= 0 && rm / 10 < ricks && rm % 10 >= 1 && rm % 10 <= 7;
                // all LAYERS have MARK 7
                due("likely(" + rm + ", 1, 0) of " + ricks, filled(ricks).likely(rm, 1, 0), right ? rm % 10 / 7 : NO_LONG);
            }
        }
        says("Long.MIN_VALUE: BAD.");
        takes("t", 0, 12, NO_LONG, () -> filled(1), (x, v) -> x.likely(7, v, 0));
        takes("part", 0, 1, NO_LONG, () -> filled(1), (x, v) -> x.likely(7, 1, v));
        due("rm least", filled(4).likely(LEAST, 1, 0), NO_LONG);
        due("rm greatest", filled(4).likely(GREATEST, 1, 0), NO_LONG);
    }

    private static void mean() {
        promise(17);
        says("MEAN.");
        due("2 and 5, above", rickOf(200, 500).mean(0, 0), 7);
        due("2 and 5, below", rickOf(200, 500).mean(0, 1), 2);
        says("Long.MIN_VALUE: BAD.");
        takesRicks(NO_LONG, (x, v) -> x.mean(v, 0));
        takes("part", 0, 1, NO_LONG, () -> filled(1), (x, v) -> x.mean(0, v));
    }

    private static void judge() {
        promise(18);
        says("JUDGED.");
        HayRemembers x = shelve(rickOf(100, 170), 0, BYTES, 7, 0);
        due("all so", x.judge(0, 0), NOT);
        x.put(0, 0, 6);
        due("the first is not", x.judge(0, 0), 0);
        says("BAD, -11, -12; NOT.");
        takesShelves(BAD, BYTES, (y, v) -> y.judge(v, 0));
        takesRicks(BAD, (y, v) -> y.judge(0, v));
        due("nothing", x.judge(5, 0), MISSING);
        due("BAD ahead of -11", x.judge(5, 1), BAD);
        for (int sort = SHORTS; sort <= BOOLEANS; sort++) {
            due("a ROW of " + sort, shelve(x, 1, sort, 7).judge(1, 0), UNLIKE);
            due("BAD ahead of -12", x.judge(1, -1), BAD);
        }
        due("a BODY", embody(x, 2).judge(2, 0), UNLIKE);
    }

    private static void top() {
        promise(19);
        says("FORCES: how many (what 0), the greatest (1; NOT), WAYS (2: bits).");
        int[] none = {0, NOT, 0};
        int[] all = {9, 9, 255};
        for (int what = 0; what <= 2; what++) {
            due("no LAYERS, " + what, yard(1).top(0, what), none[what]);
            due("all, " + what, mend(rickOf(940, 900, 940), 0, STAND, 99).top(0, what), all[what]);
            due("none STANDS, " + what, mend(high(12, 940), 0, STAND, 5).top(0, what), none[what]);
        }
        says("BAD.");
        takesRicks(BAD, (x, v) -> x.top(v, 0));
        takes("what", 0, 2, BAD, () -> filled(1), (x, v) -> x.top(0, v));
    }

    private static void hours() {
        promise(20);
        says("WITHIN a LAYER for n hours.");
        due("99 in nothing", mend(rickOf(100), 0, AGE, 99).hours(0, 99), 99);
        due("99 in 9", rickOf(900).hours(0, 99), 9);
        due("0 in 9", rickOf(900).hours(0, 0), 0);
        says("BAD.");
        takesLayers(BAD, (x, v) -> x.hours(v, 50));
        takes("n", 0, 99, BAD, () -> filled(1), (x, v) -> x.hours(0, v));
    }

    private static void youngest() {
        promise(21);
        says("In which one grows least older by n hours.");
        due("in the top of twelve", layOn(high(11, 100), 0, 200).youngest(0, 99), 11);
        due("in the lowest", high(12, 100).youngest(0, 99), 0);
        says("BAD; NOT.");
        takesRicks(BAD, (x, v) -> x.youngest(v, 50));
        takes("n", 0, 99, BAD, () -> filled(1), (x, v) -> x.youngest(0, v));
        due("no LAYERS", yard(1).youngest(0, 50), NOT);
        due("BAD ahead of NOT", yard(1).youngest(0, 100), BAD);
        due("BAD ahead of NOT", yard(1).youngest(0, -1), BAD);
    }

    private static void byTurns() {
        promise(22);
        says("BY TURNS: that (what 0), the builder's first WAY (1).");
        due("that", rickOf(500).byTurns(0, 1, 0), 0);
        due("the first WAY", rickOf(500).byTurns(0, 1, 1), 4);
        says("BAD; NOT.");
        for (int ricks = 0; ricks <= 4; ricks++) {
            int n = ricks;
            takes("RICK of " + n, 0, n - 1, BAD, () -> yard(n), (x, v) -> x.byTurns(v, 1, 0));
        }
        takes("n", 1, 4, BAD, () -> yard(1), (x, v) -> x.byTurns(0, v, 0));
        takes("what", 0, 1, BAD, () -> yard(1), (x, v) -> x.byTurns(0, 1, v));
        due("no room", filled(1).byTurns(0, 1, 0), NOT);
        due("BAD ahead of NOT", filled(1).byTurns(0, 5, 0), BAD);
        due("BAD ahead of NOT", filled(1).byTurns(0, 0, 0), BAD);
        due("BAD ahead of NOT", filled(1).byTurns(0, 1, 2), BAD);
    }

    private static void drawn() {
        promise(23);
        says("DRAWN (nm: 100 n and m): FORCE (rick -1), ends at which a RICK STANDS.");
        due("FORCE", rickOf(500).drawn(3, 3012, -1), 150);
        due("ends", rickOf(500).drawn(3, 3012, 0), 30);
        says("BAD.");
        for (int ricks = 0; ricks <= 4; ricks++) {
            int n = ricks;
            takes("RICK of " + n, -1, n - 1, BAD, () -> filled(n), (x, v) -> x.drawn(1, 101, v));
        }
        takes("n", 1, 30, BAD, () -> filled(1), (x, v) -> x.drawn(1, 100 * v + 12, 0));
        takes("m", 1, 12, BAD, () -> filled(1), (x, v) -> x.drawn(1, 3000 + v, 0));
        for (int seed : new int[] {LEAST, -1, 0, 1, GREATEST}) {
            due("SEED " + seed, rickOf(500).drawn(seed, 101, -1), 5);
        }
    }

    private static void cut() {
        promise(24);
        says("A LAYER is CUT out: what BLEW.");
        HayRemembers x = rickOf(500, 700);
        due("the top", x.cut(1), 7);
        due("the other", x.cut(0), 5);
        due("of what keeps nothing", mend(rickOf(100), 0, AGE, 99).cut(0), 0);
        says("BAD.");
        takesLayers(BAD, (y, v) -> y.cut(v));
        due("none is left", x.cut(0), BAD);
        due("LED", x.led(1), 2);
    }

    private static void day() {
        promise(25);
        says("A day passes: DAY then.");
        HayRemembers x = new HayRemembers();
        due("day 1", x.day(), 1);
        due("day 2", x.day(), 2);
        x.mend(0, DAY, 98);
        due("day 99", x.day(), 99);
        due("day 99 stays", x.day(), 99);
        due("days", x.led(4), 4);
    }

    private static void led() {
        promise(26);
        says("LED: LAID (what 0), CUT (1), FORCE (2), doors (3), days (4).");
        HayRemembers x = rickOf(900, 800, 700);
        x.cut(0);
        x.cut(0);
        for (int i = 0; i < 5; i++) {
            x.day();
        }
        int[] want = {3, 2, 17, 1, 5};
        for (int what = 0; what <= 4; what++) {
            due("led(" + what + ")", x.led(what), want[what]);
        }
        says("BAD.");
        takes("what", 0, 4, BAD, HayRemembers::new, (y, v) -> y.led(v));
    }

    private static void image() {
        promise(27);
        says("AN IMAGE is kept: DAY.");
        due("DAY 0", new HayRemembers().image(), 0);
        due("DAY 99", mend(new HayRemembers(), 0, DAY, 99).image(), 99);
        HayRemembers x = rickOf(500);
        x.image();
        x.cut(0);
        due("another", x.image(), 0);
        x.lay(0, 600);
        x.back();
        due("the latest is kept", x.of(0, HEIGHT), 0);
    }

    private static void back() {
        promise(28);
        says("It is laid back (RICKS that came since are empty): DAY.");
        HayRemembers x = rickOf(500);
        x.mend(0, DAY, 7);
        x.image();
        for (int rick = 1; rick <= 3; rick++) {
            x.rick();
            layOn(x, rick, 600, 700);
        }
        x.day();
        due("DAY", x.back(), 7);
        due("DAY is", x.of(0, DAY), 7);
        due("all RICKS are there", x.count(0), 4);
        due("what lay lies", x.of(0, HEIGHT), 1);
        for (int rick = 1; rick <= 3; rick++) {
            due("one that came since", x.of(rick, HEIGHT), 0);
            due("it takes a LAYER", x.lay(rick, 100), 0);
        }
        due("laid back again", x.back(), 7);
        due("one LAYER", x.count(1), 1);
        says("STATE: there is none.");
        due("none", new HayRemembers().back(), STATE);
        due("none", rickOf(500).back(), STATE);
        says("(CHANGES are as they are.)");
        HayRemembers y = new HayRemembers();
        y.image();
        y.mend(0, COLD, 3);
        y.mend(0, STAND, 5);
        y.mend(6, DOOR, 2);
        y.mend(0, DAY, 9);
        y.undo();
        y.back();
        due("COLD", y.of(0, COLD), 3);
        due("STAND", y.of(0, STAND), 5);
        due("DOOR", y.of(6, DOOR), 2);
        due("how many", y.count(3), 3);
        due("DONE AGAIN", y.redo(), 0);
        due("DAY", y.of(0, DAY), 9);
        due("UNDONE", y.undo(), 3);
        due("DAY", y.of(0, DAY), 0);
    }

    private static void undo() {
        promise(29);
        says("UNDONE: how many may still be.");
        HayRemembers x = rickOf(500);
        for (int i = 1; i <= 41; i++) {
            x.mend(0, AGE, i);
        }
        for (int i = 39; i >= 0; i--) {
            due("undo()", x.undo(), i);
            due("how many", x.count(3), i);
        }
        says("STATE: none.");
        due("none", x.undo(), STATE);
        due("none", new HayRemembers().undo(), STATE);
        due("AGE of the forty-first", x.of(0, AGE), 1);
    }

    private static void redo() {
        promise(30);
        says("DONE AGAIN: how many may still be.");
        HayRemembers x = rickOf(500);
        for (int i = 1; i <= 40; i++) {
            x.mend(0, AGE, i);
        }
        due("none ahead of undo()", x.redo(), STATE);
        for (int i = 0; i < 40; i++) {
            x.undo();
        }
        for (int i = 39; i >= 0; i--) {
            due("redo()", x.redo(), i);
            due("AGE", x.of(0, AGE), 40 - i);
        }
        says("STATE: none.");
        due("none", x.redo(), STATE);
        due("none", new HayRemembers().redo(), STATE);
        x.undo();
        due("one", x.redo(), 0);
    }

    private static void body() {
        promise(31);
        says("A BODY of a KIND (0 .. 7) is kept: its number.");
        takes("KIND", 0, 7, BAD, HayRemembers::new, (x, v) -> x.body(v));
        HayRemembers x = new HayRemembers();
        for (int i = 0; i <= 49; i++) {
            due("body()", x.body(i % 8), i);
            due("how many", x.count(4), i + 1);
        }
        says("BAD, FULL.");
        due("a fifty-first", x.body(0), FULL);
        due("BAD ahead of FULL", x.body(8), BAD);
        due("BAD ahead of FULL", x.body(-1), BAD);
        due("how many", x.count(4), 50);
    }

    private static void act() {
        promise(32);
        says("An ACT (0 .. 3) of a BODY with x.");
        takes("ACT", 0, 3, 0, () -> embody(new HayRemembers(), 0), (x, v) -> x.act(0, v, 7));
        takes("BODY", 0, 1, 0, () -> embody(embody(new HayRemembers(), 0), 1), (x, v) -> x.act(v, 0, 7));
        says("0, and no TRACE then: no such BODY, ACT.");
        for (int[] none : new int[][] {{1, 0}, {-1, 0}, {50, 0}, {0, 4}, {0, -1}, {LEAST, LEAST}, {GREATEST, GREATEST}}) {
            HayRemembers x = embody(new HayRemembers(), 0);
            due("an act", x.act(0, 3, 7), 13);
            due("its bodies", x.count(5), 4);
            due("no act", x.act(none[0], none[1], 7), 0);
            due("none ran", x.count(5), 0);
            due("no TRACE", x.trace(0), BAD);
        }
    }

    private static void trace() {
        promise(33);
        says("THE TRACE's i-th body.");
        HayRemembers x = embody(new HayRemembers(), 0);
        x.act(0, 3, 7);
        int[] ran = {2, 10, 1, 11};
        for (int i = 0; i <= 3; i++) {
            due("trace(" + i + ")", x.trace(i), ran[i]);
        }
        says("BAD.");
        for (int i : new int[] {LEAST, -1, 4, 23, 24, GREATEST}) {
            due("trace(" + i + ")", x.trace(i), BAD);
        }
        due("ahead of all acts", new HayRemembers().trace(0), BAD);
    }

    private static void keep() {
        promise(34);
        says("A SHELF holds nothing (body -1), or a BODY: 1.");
        HayRemembers x = embody(new HayRemembers(), 5);
        due("a BODY", x.taken(5, 0), 0);
        due("nothing", x.keep(5, -1), 1);
        due("nothing is there", x.taken(5, 0), MISSING);
        due("nothing twice", x.keep(5, -1), 1);
        says("BAD.");
        takes("SHELF", 0, 5, BAD, () -> embody(new HayRemembers(), 0), (y, v) -> y.keep(v, 0));
        takes("BODY of none", -1, -1, BAD, HayRemembers::new, (y, v) -> y.keep(0, v));
        takes("BODY of two", -1, 1, BAD, () -> embody(embody(new HayRemembers(), 0), 1), (y, v) -> y.keep(0, v));
        HayRemembers z = shelve(new HayRemembers(), 0, BYTES, 5);
        due("no BODY", z.keep(0, 0), BAD);
        due("the ROW stays", z.element(0, 0), 5);
    }

    private static void row() {
        promise(35);
        says("A SHELF holds a ROW: 1.");
        HayRemembers x = embody(new HayRemembers(), 0);
        due("a ROW where a BODY was", x.row(0, LONGS, 60), 1);
        due("its last", x.put(0, 59, Long.MAX_VALUE), 1);
        due("its last", x.element(0, 59), Long.MAX_VALUE);
        says("BAD (sort, n above 60); -14.");
        takes("SHELF", 0, 5, BAD, HayRemembers::new, (y, v) -> y.row(v, BYTES, 1));
        takes("sort", 0, 4, BAD, HayRemembers::new, (y, v) -> y.row(0, v, 1));
        due("n 61", x.row(0, BYTES, 61), BAD);
        due("n greatest", x.row(0, BYTES, GREATEST), BAD);
        due("n -1", x.row(0, BYTES, -1), NO_SIZE);
        due("n least", x.row(0, BYTES, LEAST), NO_SIZE);
        due("BAD ahead of -14", x.row(0, 5, -1), BAD);
        due("BAD ahead of -14", x.row(0, -1, -1), BAD);
        due("BAD ahead of -14", x.row(6, BYTES, -1), BAD);
        due("the ROW stays", x.element(0, 59), Long.MAX_VALUE);
        due("n 0", x.row(0, BYTES, 0), 1);
        due("no elements", x.element(0, 0), NO_LONG);
    }

    private static void put() {
        promise(36);
        says("Element i of a ROW becomes v: 1.");
        HayRemembers x = shelve(new HayRemembers(), 0, LONGS, 1, 2, 3);
        due("the first", x.put(0, 0, Long.MIN_VALUE + 1), 1);
        due("the last", x.put(0, 2, Long.MAX_VALUE), 1);
        due("the first", x.element(0, 0), Long.MIN_VALUE + 1);
        due("the one between", x.element(0, 1), 2);
        due("the last", x.element(0, 2), Long.MAX_VALUE);
        says("BAD, -11, -12, -13.");
        takes("SHELF", 0, 5, BAD, HayRemembers::new, (y, v) -> y.put(v, 0, 1));
        takes("i", 0, 2, NO_PLACE, () -> shelve(new HayRemembers(), 0, LONGS, 1, 2, 3), (y, v) -> y.put(0, v, 1));
        due("-11 ahead of -13", x.put(1, -1, 1), MISSING);
        due("-12 ahead of -13", embody(x, 2).put(2, -1, 1), UNLIKE);
        due("BAD ahead of -13", x.put(6, -1, 1), BAD);
        due("of an empty ROW", shelve(x, 3, BYTES).put(3, 0, 1), NO_PLACE);
    }

    private static void element() {
        promise(37);
        says("Element i of a ROW; Long.MIN_VALUE: BAD, -11 to -13.");
        takes("SHELF", 0, 5, NO_LONG, () -> {
            HayRemembers x = new HayRemembers();
            for (int shelf = 0; shelf <= 5; shelf++) {
                x.row(shelf, BYTES, 1);
            }
            return x;
        }, (x, v) -> x.element(v, 0));
        takes("i", 0, 59, NO_LONG, () -> {
            HayRemembers x = new HayRemembers();
            x.row(0, LONGS, 60);
            return x;
        }, (x, v) -> x.element(0, v));
        due("nothing", new HayRemembers().element(0, 0), NO_LONG);
        due("a BODY", embody(new HayRemembers(), 0).element(0, 0), NO_LONG);
        due("of an empty ROW", shelve(new HayRemembers(), 0, BYTES).element(0, 0), NO_LONG);
        due("the least of longs", shelve(new HayRemembers(), 0, LONGS, Long.MIN_VALUE).element(0, 0), NO_LONG);
    }

    private static void shift() {
        promise(38);
        says("n elements of a ROW from i on come to another one (or the same) from j on, as they all were before: n.");
        for (int i = -1; i <= 6; i++) {
            for (int j = -1; j <= 6; j++) {
                for (int n = -1; n <= 6; n++) {
                    HayRemembers x = shelve(shelve(new HayRemembers(), 0, INTS, 1, 2, 3, 4, 5), 1, INTS, 6, 7, 8, 9);
                    boolean within = i >= 0 && j >= 0 && n >= 0;
                    dueShift(x, i, 0, j, n, within && i + n <= 5 && j + n <= 5, 1, 2, 3, 4, 5);
                    dueShift(x, i, 1, j, n, within && i + n <= 5 && j + n <= 4, 6, 7, 8, 9);
                }
            }
        }
        says("BAD, -11 (either), -12 (no ROWS, or of unlike sorts), -13 (n below 0, too).");
        HayRemembers x = embody(shelve(shelve(new HayRemembers(), 0, INTS, 1, 2), 1, LONGS, 3), 2);
        due("no SHELF", x.shift(6, 0, 0, 0, 1), BAD);
        due("no SHELF", x.shift(-1, 0, 0, 0, 1), BAD);
        due("no other", x.shift(0, 0, 6, 0, 1), BAD);
        due("no other", x.shift(0, 0, -1, 0, 1), BAD);
        due("BAD ahead of -11", x.shift(5, 0, 6, 0, 1), BAD);
        due("BAD ahead of -11", x.shift(6, 0, 5, 0, 1), BAD);
        due("nothing here", x.shift(5, 0, 0, 0, 1), MISSING);
        due("nothing there", x.shift(0, 0, 5, 0, 1), MISSING);
        due("-11 ahead of -12", x.shift(5, 0, 2, 0, 1), MISSING);
        due("-11 ahead of -12", x.shift(2, 0, 5, 0, 1), MISSING);
        due("-11 ahead of -13", x.shift(0, -1, 5, 0, 1), MISSING);
        due("a BODY here", x.shift(2, 0, 0, 0, 1), UNLIKE);
        due("a BODY there", x.shift(0, 0, 2, 0, 1), UNLIKE);
        due("BODIES", x.shift(2, 0, 2, 0, 1), UNLIKE);
        due("unlike sorts", x.shift(0, 0, 1, 0, 1), UNLIKE);
        due("-12 ahead of -13", x.shift(0, 0, 1, 0, -1), UNLIKE);
        due("n least", x.shift(0, 0, 0, 0, LEAST), NO_PLACE);
        due("n greatest", x.shift(0, 1, 0, 1, GREATEST), NO_PLACE);
        due("i greatest", x.shift(0, GREATEST, 0, 0, 1), NO_PLACE);
        due("j greatest", x.shift(0, 0, 0, GREATEST, 1), NO_PLACE);
        due("i least", x.shift(0, LEAST, 0, 0, 1), NO_PLACE);
        due("j least", x.shift(0, 0, 0, LEAST, 1), NO_PLACE);
        due("none from behind the last", x.shift(0, 2, 0, 2, 0), 0);
    }

    /** Shifts from shelf 0, which holds 1 .. 5, and looks at all that is on the other shelf then. */
    private static void dueShift(HayRemembers x, int i, int other, int j, int n, boolean right, int... was) {
        shelve(x, 0, INTS, 1, 2, 3, 4, 5);
        due("shift(0, " + i + ", " + other + ", " + j + ", " + n + ")", x.shift(0, i, other, j, n), right ? n : NO_PLACE);
        for (int k = 0; k < was.length; k++) {
            boolean came = right && k >= j && k < j + n;
            due("element " + k + " behind it", x.element(other, k), came ? 1 + i + k - j : was[k]);
        }
    }

    private static void taken() {
        promise(39);
        says("What a SHELF holds, taken for a BODY of KIND k (0 .. 7), or under it: its KIND.");
        HayRemembers x = new HayRemembers();
        x.keep(0, x.body(5));
        for (int k : new int[] {0, 2, 3, 5}) {
            due("a LADY for a " + k, x.taken(0, k), 5);
        }
        says("BAD, -11, -12.");
        for (int k : new int[] {1, 4, 6, 7}) {
            due("a LADY for a " + k, x.taken(0, k), UNLIKE);
        }
        takes("KIND", 0, 7, BAD, () -> embody(new HayRemembers(), 0), (y, v) -> y.taken(0, v));
        takes("SHELF", 0, 5, BAD, HayRemembers::new, (y, v) -> y.taken(v, 0));
        due("nothing", x.taken(1, 0), MISSING);
        due("BAD ahead of -11", x.taken(1, 8), BAD);
        due("a ROW", shelve(x, 1, BYTES, 0).taken(1, 0), UNLIKE);
        due("BAD ahead of -12", x.taken(1, -1), BAD);
    }

    private static void count() {
        promise(40);
        says("How many: 0 RICKS, 1 LAYERS of all, 2 bytes on THE TAPE, 3 changes that may be UNDONE, 4 BODIES, "
            + "5 bodies that ran in the latest act() (all, kept or not).");
        HayRemembers x = filled(4);
        due("RICKS", x.count(0), 4);
        due("LAYERS", x.count(1), 48);
        feed(x, "1+".repeat(60));
        due("bytes", x.count(2), 120);
        due("changes", x.count(3), 1);
        for (int i = 1; i <= 50; i++) {
            x.mend(0, AGE, i);
        }
        due("changes", x.count(3), 40);
        x.undo();
        due("changes", x.count(3), 39);
        x.body(5);
        due("BODIES", x.count(4), 2);
        x.act(1, 3, 1);
        due("bodies that ran", x.count(5), 10);
        says("BAD.");
        takes("what", 0, 5, BAD, HayRemembers::new, (y, v) -> y.count(v));
    }
}
