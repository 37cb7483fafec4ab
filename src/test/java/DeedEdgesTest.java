/** The sentences of "4 DRAWN and IN DEED" that name a least, a greatest, what is beyond, empty or full, and what wraps. */
public final class DeedEdgesTest extends Sentences {
    public static void main(String[] args) {
        open("======== 4 ", "======== 5 ");
        drawnNumbers();
        drawnBySeeds();
        drawnOfNone();
        inDeed();
        days();
        led();
        changes();
        doneAgain();
        fortyChanges();
        changesOfLayers();
        deedsAreNone();
        image();
        imageOfAll();
        alsoLay();
        alsoLetOut();
        alsoWorth();
        alsoTurns();
        open("======== SO THAT NOTHING IS READ TWO WAYS.", "Ahead of the calls `lean`");
        fractions();
        numbersOfCalls();
        finish();
    }

    private static void drawnNumbers() {
        says("DRAWN: n winters (1 .. 30) of m (1 .. 12) CUTS from now by a SEED");
        for (int nm = -1300; nm <= 3300; nm++) {
            boolean right = nm >= 101 && nm <= 3012 && nm % 100 >= 1 && nm % 100 <= 12;
            // each winter's first CUT takes the only LAYER, the others are left out
            due("drawn(1, " + nm + ", -1)", rickOf(500).drawn(1, nm, -1), right ? 5 * (nm / 100) : BAD);
        }
        due("nm least", rickOf(500).drawn(1, LEAST, -1), BAD);
        due("nm greatest", rickOf(500).drawn(1, GREATEST, -1), BAD);
        due("nothing is CUT", rickOf(500).led(1), 0);
        due("twelve of twelve", high(12, 940).drawn(1, 112, -1), 108);
        due("thirty times", high(12, 940).drawn(1, 3012, -1), 30 * 108);
    }

    private static void drawnBySeeds() {
        says("z = z * 1103515245 + 12345 (an int; SEED at first) ahead of each");
        int[][] forces = {{9, 3, 5, 2}, {1, 8, 4}, {6}, {7, 2, 4, 6, 1}};
        HayRemembers x = yard(4);
        for (int rick = 0; rick <= 3; rick++) {
            for (int force : forces[rick]) {
                x.lay(rick, 100 * force + 40);
            }
        }
        x.mend(0, STAND, 12);
        for (int seed : new int[] {0, 1, -1, 12345, LEAST, LEAST + 1, GREATEST, GREATEST - 1, 1 << 30, -1103515245}) {
            for (int nm : new int[] {101, 112, 505, 3001, 3012}) {
                Winters winters = new Winters(forces, seed, nm / 100, nm % 100, 3, 12);
                due("FORCE by " + seed + ", " + nm, x.drawn(seed, nm, -1), winters.blew);
                due("ends by " + seed + ", " + nm, x.drawn(seed, nm, 3), winters.stood);
            }
        }
        says("FORCE that BLEW, all together; at how many ends a told RICK STANDS");
        due("all ends of a RICK that falls never", x.drawn(1, 3012, 2), 30);
        due("no end of a RICK that falls always", mend(high(12, 940), 0, STAND, 0).drawn(1, 3001, 0), 0);
        due("RICK -2", x.drawn(1, 101, -2), BAD);
        due("RICK 4", x.drawn(1, 101, 4), BAD);
    }

    private static void drawnOfNone() {
        says("of the (z >>> 8) % how many-th RICK the (z >>> 16) % how many-th LAYER (RICK without any: left out)");
        due("no RICKS", new HayRemembers().drawn(7, 3012, -1), 0);
        due("no LAYERS", yard(4).drawn(7, 3012, -1), 0);
        due("all ends of an empty RICK", mend(yard(4), 0, STAND, 0).drawn(7, 3012, 3), 30);
        int[][] forces = {{}, {9, 3}, {}};
        HayRemembers x = layOn(yard(3), 1, 940, 340);
        for (int seed = -20; seed <= 20; seed++) {
            due("two of three are empty, " + seed, x.drawn(seed, 3003, -1), new Winters(forces, seed, 30, 3, 1, 0).blew);
        }
    }

    private static void inDeed() {
        says("IN DEED: a LAYER is LAID; a RICK is CUT");
        HayRemembers x = rickOf(521);
        due("one lies", x.count(1), 1);
        due("LAID", x.led(0), 1);
        due("it BLOWS", x.cut(0), 5);
        due("none lies", x.count(1), 0);
        due("CUT", x.led(1), 1);
        due("none to be CUT", x.cut(0), BAD);
        due("CUT still", x.led(1), 1);
        says("A DOOR that came off is put on again");
        HayRemembers door = mend(rickOf(540, 540, 540), 4, DOOR, 5);
        for (int i = 1; i <= 3; i++) {
            door.cut(0);
            due("doors off", door.led(3), i);
            due("the DOOR is on again", door.of(4, DOOR), 5);
        }
    }

    private static void days() {
        says("a day passes (AGE of all one more, 99 at most; DAY, too, 99 stays)");
        HayRemembers x = layOn(layOn(yard(4), 0, 500, 600), 3, 700);
        x.mend(0, AGE, 97);
        x.mend(1, AGE, 99);
        x.mend(0, DAY, 97);
        int[] aged = {98, 99, 99, 99};
        for (int i = 0; i <= 3; i++) {
            due("DAY", x.day(), aged[i]);
            due("of DAY", x.of(0, DAY), aged[i]);
            due("AGE of one", x.of(0, AGE), aged[i]);
            due("AGE of 99", x.of(1, AGE), 99);
            due("AGE of one on the last RICK", x.of(48, AGE), i + 1);
        }
        due("one laid behind them", x.lay(1, 500), 0);
        due("its AGE", x.of(16, AGE), 0);
        HayRemembers long100 = rickOf(500);
        for (int i = 1; i <= 100; i++) {
            due("day " + i, long100.day(), Math.min(99, i));
        }
        due("AGE behind 100", long100.of(0, AGE), 99);
        due("a yard without RICKS", new HayRemembers().day(), 1);
    }

    private static void led() {
        says("LED: LAID, CUT, FORCE that BLEW, doors off (each CUT that took one), days");
        HayRemembers x = shelve(yard(2), 0, BYTES, 2, 9, 1, 3, 8, 0, 2, 1, 8);
        int[] none = {0, 0, 0, 0, 0};
        dueLed(x, none);
        x.layers(0, 0, 103);
        x.lay(0, 900);
        x.lay(0, 100);
        x.mend(1, AGE, 99);
        x.cut(16);
        x.cut(16);
        x.cut(0);
        x.cut(0);
        x.day();
        dueLed(x, 4, 4, 26, 2, 1);
        x.cut(0);
        x.lay(2, 500);
        x.lay(0, 77);
        dueLed(x, 4, 4, 26, 2, 1);
        for (int i = 0; i < 99; i++) {
            x.day();
        }
        dueLed(x, 4, 4, 26, 2, 100);
    }

    private static void dueLed(HayRemembers x, int... want) {
        for (int what = 0; what <= 4; what++) {
            due("led(" + what + ")", x.led(what), want[what]);
        }
    }

    private static void changes() {
        says("CHANGES (all numbers of mend(); telling the same number is none) can be UNDONE, the latest first");
        int[] was = {2, 5, 1, 0, 0, 20, 0, 9};
        int[] is = {7, 9, 0, 99, 9, 0, 99, 1};
        for (int what = WAY; what <= DOOR; what++) {
            HayRemembers x = rickOf(521);
            due("none to be UNDONE", x.undo(), STATE);
            due("the same, " + what, x.mend(0, what, was[what]), was[what]);
            due("none still, " + what, x.count(3), 0);
            due("none to be UNDONE", x.undo(), STATE);
            due("what it was, " + what, x.mend(0, what, is[what]), was[what]);
            due("one, " + what, x.count(3), 1);
            due("what it is, " + what, x.of(0, what), is[what]);
            due("UNDONE, " + what, x.undo(), 0);
            due("as it was, " + what, x.of(0, what), was[what]);
            due("DONE AGAIN, " + what, x.redo(), 0);
            due("as it is, " + what, x.of(0, what), is[what]);
            due("none more", x.redo(), STATE);
        }
        HayRemembers x = rickOf(521);
        for (int what = WAY; what <= DOOR; what++) {
            x.mend(0, what, is[what]);
        }
        for (int what = DOOR; what >= WAY; what--) {
            due("the latest first", x.undo(), what);
            for (int w = WAY; w <= DOOR; w++) {
                due("of " + w, x.of(0, w), w < what ? is[w] : was[w]);
            }
        }
        due("a change is refused", x.mend(0, FORCE, 10), BAD);
        due("it is none", x.count(3), 0);
        due("it came not behind", x.redo(), 7);
    }

    private static void doneAgain() {
        says("DONE AGAIN (as long as no other came behind)");
        HayRemembers x = rickOf(500);
        due("none", x.redo(), STATE);
        x.mend(0, FORCE, 6);
        x.mend(0, FORCE, 7);
        due("none UNDONE", x.redo(), STATE);
        x.undo();
        due("the same number is no other", x.mend(0, FORCE, 6), 6);
        x.lay(0, 100);
        x.day();
        x.cut(1);
        x.image();
        due("deeds are no others", x.redo(), 0);
        due("FORCE", x.of(0, FORCE), 7);
        x.undo();
        x.undo();
        x.mend(0, COLD, 1);
        due("another came behind", x.redo(), STATE);
        due("FORCE", x.of(0, FORCE), 5);
        due("only the other can be UNDONE", x.undo(), 0);
        due("the other again", x.redo(), 0);
        due("COLD", x.of(0, COLD), 1);
    }

    private static void fortyChanges() {
        says("40 at most are kept");
        for (int n : new int[] {1, 39, 40, 41, 42, 80, 99}) {
            HayRemembers x = rickOf(500);
            for (int i = 1; i <= n; i++) {
                x.mend(0, AGE, i);
                due("changes of " + i, x.count(3), Math.min(40, i));
            }
            int kept = Math.min(40, n);
            for (int i = 1; i <= kept; i++) {
                due("UNDONE of " + n, x.undo(), kept - i);
                due("AGE of " + n, x.of(0, AGE), n - i);
            }
            due("none more of " + n, x.undo(), STATE);
            due("AGE stays", x.of(0, AGE), n - kept);
            for (int i = 1; i <= kept; i++) {
                due("DONE AGAIN of " + n, x.redo(), kept - i);
            }
            due("none more of " + n, x.redo(), STATE);
            due("AGE of all " + n, x.of(0, AGE), n);
        }
        fortyOfAllKinds();
        HayRemembers x = rickOf(500);
        for (int i = 1; i <= 40; i++) {
            x.mend(0, AGE, i);
        }
        for (int i = 0; i < 5; i++) {
            x.undo();
        }
        x.mend(0, AGE, 99);
        due("behind five UNDONE", x.count(3), 36);
        due("none to be DONE AGAIN", x.redo(), STATE);
        due("UNDONE", x.undo(), 35);
        due("AGE", x.of(0, AGE), 35);
    }

    /** Behind forty more, what was told first stays, whatever it was told of. */
    private static void fortyOfAllKinds() {
        int[] was = {2, 5, 1, 0, 0, 20, 0, 9};
        for (int first = WAY; first <= DOOR; first++) {
            HayRemembers x = rickOf(521);
            x.mend(0, first, 6);
            for (int i = 0; i < 40; i++) {
                x.mend(0, (first + 1 + i % 7) % 8, 3 + i / 7 % 2);
            }
            for (int i = 39; i >= 0; i--) {
                due("UNDONE", x.undo(), i);
            }
            for (int what = WAY; what <= DOOR; what++) {
                due("of " + what, x.of(0, what), what == first ? 6 : was[what]);
            }
        }
    }

    private static void changesOfLayers() {
        says("one of a LAYER stays with it, also where it lies lower, or is CUT "
            + "(then nothing is seen of it; behind an IMAGE laid back, too)");
        HayRemembers x = high(12, 500);
        x.mend(11, FORCE, 9);
        x.mend(0, FORCE, 1);
        for (int i = 0; i < 10; i++) {
            x.cut(i == 0 ? 0 : 1);
        }
        due("of one that is CUT", x.undo(), 1);
        due("nothing is seen below", x.of(0, FORCE), 5);
        due("nothing is seen above", x.of(1, FORCE), 9);
        due("of one that lies lower", x.undo(), 0);
        due("it is seen", x.of(1, FORCE), 5);
        due("again", x.redo(), 1);
        due("it is seen", x.of(1, FORCE), 9);
        x.lay(0, 300);
        due("again, of the one that is CUT", x.redo(), 0);
        for (int i = 0; i <= 2; i++) {
            due("FORCE of " + i, x.of(i, FORCE), 5 + (i == 1 ? 4 : 0) - (i == 2 ? 2 : 0));
        }
        changesOfAllLayers();
        HayRemembers y = rickOf(500);
        y.mend(0, FORCE, 9);
        y.image();
        y.mend(0, FORCE, 7);
        y.back();
        due("as it was", y.of(0, FORCE), 9);
        due("of one behind an IMAGE", y.undo(), 1);
        due("of one ahead of it", y.undo(), 0);
        due("nothing is seen", y.of(0, FORCE), 9);
        due("again", y.redo(), 1);
        due("again", y.redo(), 0);
        due("nothing is seen", y.of(0, FORCE), 9);
        y.mend(0, FORCE, 2);
        due("of the new one", y.undo(), 2);
        due("it is seen", y.of(0, FORCE), 9);
    }

    private static void changesOfAllLayers() {
        for (int changed = 0; changed < 48; changed++) {
            HayRemembers x = yard(4);
            for (int i = 0; i < 48; i++) {
                x.lay(i / 12, 500);
            }
            x.mend(16 * (changed / 12) + changed % 12, FORCE, 9);
            dueForces(x, changed, 9);
            x.undo();
            dueForces(x, changed, 5);
            x.redo();
            dueForces(x, changed, 9);
        }
    }

    private static void dueForces(HayRemembers x, int changed, int force) {
        for (int i = 0; i < 48; i++) {
            due("FORCE of " + i, x.of(16 * (i / 12) + i % 12, FORCE), i == changed ? force : 5);
        }
    }

    private static void deedsAreNone() {
        says("deeds are none (AGE, DAY by them, too)");
        HayRemembers x = rickOf(500, 600);
        x.day();
        x.cut(0);
        x.image();
        x.back();
        due("no changes", x.count(3), 0);
        due("none to be UNDONE", x.undo(), STATE);
        x.mend(0, AGE, 50);
        x.mend(0, DAY, 50);
        x.day();
        due("AGE", x.of(0, AGE), 51);
        due("DAY", x.of(0, DAY), 51);
        due("DAY is UNDONE", x.undo(), 1);
        due("DAY is what it was", x.of(0, DAY), 1);
        due("AGE is UNDONE", x.undo(), 0);
        due("AGE is what it was", x.of(0, AGE), 1);
    }

    private static void image() {
        says("AN IMAGE keeps what lies on all RICKS (their numbers as they were; all LAYERS are new ones then), DAY, what LED tells");
        HayRemembers none = new HayRemembers();
        due("no IMAGE", none.back(), STATE);
        due("an IMAGE of no RICKS", none.image(), 0);
        none.rick();
        none.lay(0, 500);
        none.day();
        due("it is laid back", none.back(), 0);
        due("a RICK that came since", none.of(0, HEIGHT), 0);
        due("it is there", none.count(0), 1);
        due("DAY", none.of(0, DAY), 0);
        dueLed(none, 0, 0, 0, 0, 0);
        HayRemembers x = rickOf(521);
        x.mend(0, DAY, 99);
        due("DAY 99", x.image(), 99);
        x.mend(0, DAY, 0);
        x.cut(0);
        x.lay(0, 340);
        due("back to 99", x.back(), 99);
        due("FORCE", x.of(0, FORCE), 5);
        dueLed(x, 1, 0, 0, 0, 0);
        x.mend(0, FORCE, 8);
        due("once more", x.back(), 99);
        due("FORCE", x.of(0, FORCE), 5);
        x.mend(0, FORCE, 7);
        x.mend(0, DAY, 3);
        due("another IMAGE", x.image(), 3);
        x.cut(0);
        due("the latest IMAGE", x.back(), 3);
        due("FORCE", x.of(0, FORCE), 7);
    }

    /** An image of four full ricks, laid back when all of them are bare. */
    private static void imageOfAll() {
        HayRemembers x = yard(4);
        for (int rick = 0; rick <= 3; rick++) {
            for (int i = 0; i < 12; i++) {
                x.lay(rick, 100 * (1 + (rick + i) % 9) + 10 * ((2 * rick + i) % 8) + (rick + 3 * i) % 8);
            }
        }
        x.day();
        x.image();
        for (int i = 0; i < 48; i++) {
            x.cut(16 * (i % 4));
        }
        due("none lies", x.count(1), 0);
        due("back()", x.back(), 1);
        due("all lie", x.count(1), 48);
        for (int rick = 0; rick <= 3; rick++) {
            for (int i = 0; i < 12; i++) {
                int rl = 16 * rick + i;
                due("FORCE of " + rl, x.of(rl, FORCE), 1 + (rick + i) % 9);
                due("WAY of " + rl, x.of(rl, WAY), (2 * rick + i) % 8);
                due("MARK of " + rl, x.of(rl, MARK), (rick + 3 * i) % 8);
                due("AGE of " + rl, x.of(rl, AGE), 1);
            }
        }
        dueLed(x, 48, 0, 0, 0, 1);
    }

    private static void alsoLay() {
        says("ALSO: LAY: the RICK need not STAND ahead of it");
        HayRemembers x = shelve(rickOf(920, 920, 920), 0, SHORTS, 960, 100);
        due("it falls", x.lean(0, 2), 0);
        due("its first brings it back", x.order(0, 0, -1), 18);
        due("that one", x.order(0, 0, 0), 0);
        says("no HOURS: 0");
        due("on a RICK that falls", shelve(x, 0, SHORTS).order(0, 0, -1), 0);
        due("none that is one", shelve(x, 0, SHORTS, 0).order(0, 0, -1), 0);
        due("on an empty RICK", shelve(mend(yard(1), 0, STAND, 0), 0, SHORTS).order(0, 0, -1), 0);
        due("on a full RICK", shelve(high(12, 900), 0, SHORTS).order(0, 0, -1), 0);
        due("no first", shelve(x, 0, SHORTS).order(0, 0, 0), NOT);
    }

    private static void alsoLetOut() {
        says("LET OUT: the last CUT, too, leaves it standing");
        HayRemembers x = mend(rickOf(920, 967), 0, STAND, 9);
        due("9 by 9 behind it", x.letOut(0, 7, -1), 1);
        x.mend(0, STAND, 8);
        due("9 by 8 behind it", x.letOut(0, 7, -1), NOT);
        x.lay(0, 150);
        due("8 by 8 behind it", x.letOut(0, 7, -1), 1);
        says("a LAYER that KEEPS nothing lets its MARK out, too");
        HayRemembers nothing = mend(rickOf(107), 0, AGE, 99);
        due("keeps nothing", nothing.keeps(0), 0);
        due("its MARK is let out", nothing.letOut(0, 7, -1), 1);
        HayRemembers two = mend(mend(rickOf(137, 127), 0, AGE, 10), 0, STAND, 0);
        due("0 by 0 behind one CUT", two.letOut(0, 7, -1), 1);
        due("the one that keeps FORCE", two.letOut(0, 7, 0), 1);
        due("what keeps nothing, by likely()", nothing.likely(7, 1, 0), 1);
    }

    private static void alsoWorth() {
        says("WORTH: KEPT with AGE of that day, by what lies then");
        HayRemembers x = ruled(rickOf(100, 100, 100), "l");
        // 2, then 1, then 0 from below
        due("from below", x.worth(0, 3, -1), 3);
        for (int k = 0; k <= 2; k++) {
            due("k " + k, x.worth(0, 3, k), k);
        }
        HayRemembers y = ruled(rickOf(100, 100, 100), "k");
        due("from the top", y.worth(0, 3, -1), 3);
        for (int k = 0; k <= 2; k++) {
            due("k " + k, y.worth(0, 3, k), 2 - k);
        }
        HayRemembers z = ruled(rickOf(100, 100), "a=1");
        due("AGE 1 on the second day", z.worth(0, 2, -1), 1);
        due("AGE 0 on the first", z.worth(0, 1, -1), 0);
        z.mend(0, AGE, 99);
        z.mend(1, AGE, 99);
        due("AGE 99 stays", ruled(z, "a=99").worth(0, 2, -1), 2);
    }

    private static void alsoTurns() {
        says("BY TURNS: whether it STANDS does not matter");
        HayRemembers x = mend(high(8, 920), 0, STAND, 0);
        due("72 by 0", x.byTurns(0, 4, 0), 72);
        due("its first WAY", x.byTurns(0, 4, 1), 5);
        x.mend(0, STAND, 99);
        due("72 by 99", x.byTurns(0, 4, 0), 72);
    }

    private static void fractions() {
        says("All fractions are in lowest terms (0 by 1, where what is above the line is 0)");
        for (int layers = 0; layers <= 12; layers++) {
            for (int marked = 0; marked <= layers; marked++) {
                HayRemembers x = yard(1);
                for (int i = 0; i < layers; i++) {
                    x.lay(0, i < marked ? 107 : 900);
                }
                dueLowest("likely() by 1", x.likely(7, 1, 0), x.likely(7, 1, 1), marked, layers);
                dueLowest("likely() by 0", x.likely(7, 0, 0), x.likely(7, 0, 1), 0, layers);
                dueLowest("mean()", x.mean(0, 0), x.mean(0, 1), marked + 9 * (layers - marked), layers);
            }
        }
    }

    private static void dueLowest(String what, long above, long below, int wholeAbove, int wholeBelow) {
        String call = what + " of " + wholeAbove + " by " + wholeBelow;
        if (wholeAbove == 0) {
            due(call + ", above", above, 0);
            due(call + ", below", below, 1);
            return;
        }
        due(call + ", crosswise", above * wholeBelow, below * wholeAbove);
        for (int d = 2; d <= 108; d++) {
            due(call + ", parted by " + d, above % d == 0 && below % d == 0 ? 1 : 0, 0);
        }
    }

    private static void numbersOfCalls() {
        says("rl: 16 times the RICK, and the LAYER");
        HayRemembers x = yard(4);
        for (int rick = 0; rick <= 3; rick++) {
            for (int i = 0; i <= 3 * rick + 2; i++) {
                x.lay(rick, 100 * (1 + (rick + i) % 9));
            }
        }
        for (int rl = -20; rl <= 80; rl++) {
            boolean there = rl >= 0 && rl / 16 <= 3 && rl % 16 <= 3 * (rl / 16) + 2;
            due("keeps(" + rl + ")", x.keeps(rl), there ? 1 + (rl / 16 + rl % 16) % 9 : BAD);
            due("of(" + rl + ", 1)", x.of(rl, FORCE), there ? 1 + (rl / 16 + rl % 16) % 9 : BAD);
            due("hours(" + rl + ", 0)", x.hours(rl, 0), there ? 0 : BAD);
        }
        says("part 0 above, 1 below the line");
        takes("part", 0, 1, NO_LONG, () -> rickOf(101), (y, v) -> y.likely(1, 1, v));
        takes("part", 0, 1, NO_LONG, () -> rickOf(101), (y, v) -> y.mean(0, v));
        HayRemembers half = rickOf(201, 100);
        due("1 above", half.likely(1, 1, 0), 1);
        due("2 below", half.likely(1, 1, 1), 2);
        due("3 above", half.mean(0, 0), 3);
        due("2 below", half.mean(0, 1), 2);
    }
}
