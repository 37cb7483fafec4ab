/** The sentences of "2 IN THOUGHT" and "3 WORTH" that name a least, a greatest, what is beyond, empty or full. */
public final class ThoughtEdgesTest extends Sentences {
    public static void main(String[] args) {
        open("======== 2 ", "======== 3 ");
        inThought();
        winter();
        winterFirsts();
        winterMarks();
        layMany();
        layStanding();
        layLeast();
        layNot();
        letOutMarks();
        letOutFewest();
        letOutNot();
        open("======== 3 ", "======== 4 ");
        worth();
        worthByDays();
        likely();
        mean();
        judged();
        forces();
        ways();
        within();
        byTurns();
        byTurnsBest();
        finish();
    }

    private static void inThought() {
        says("IN THOUGHT, from now (no days pass)");
        HayRemembers x = rickOf(500, 500, 500);
        for (int i = 0; i < 3; i++) {
            x.mend(i, AGE, 9);
        }
        shelve(x, 0, BYTES, 0, 0, 0);
        due("FORCE of three CUTS", x.winter(0, 3, 1), 15);
        due("AGE", x.of(2, AGE), 9);
        due("DAY", x.of(0, DAY), 0);
        due("days", x.led(4), 0);
        due("FORCE of drawn CUTS", x.drawn(1, 103, -1), 15);
        says("how much a LAYER KEEPS; LEAN of X, of Y; whether it STANDS; what is let out by a CUT");
        HayRemembers y = ruled(rickOf(921, 932, 913), "f-l*2");
        int keeps = y.keeps(1);
        due("keeps()", keeps, 7);
        due("X", y.lean(0, 0), 5 + 7 + 9);
        due("Y", y.lean(0, 1), 7 - 9);
        due("it falls", y.lean(0, 2), 0);
        due("what is let out", y.cut(1), keeps);
        due("X then", y.lean(0, 0), 7 + 9);
        due("it STANDS then", y.lean(0, 2), 1);
    }

    private static void winter() {
        says("Of a WINTER, its first n CUTS: how many were made");
        HayRemembers x = shelve(rickOf(320, 430, 540), 0, BYTES, 2, 0, 0);
        int[] made = {0, 1, 2, 3, 3, 3};
        for (int n = 0; n <= 5; n++) {
            due("how many of " + n, x.winter(0, n, 0), made[n]);
        }
        due("how many of 24", x.winter(0, 24, 0), 3);
        due("of an empty ROW", shelve(x, 1, BYTES).winter(1, 24, 0), 0);
        says("FORCE that BLEW, all together");
        int[] blew = {0, 5, 8, 12, 12, 12};
        for (int n = 0; n <= 5; n++) {
            due("FORCE of " + n, x.winter(0, n, 1), blew[n]);
        }
        HayRemembers most = shelve(high(12, 900), 0, BYTES, 0, 0, 0, 0, 0, 0, 0, 0, 0, 0, 0, 0, 0);
        due("the most of one RICK", most.winter(0, 24, 1), 108);
        says("LEAN of X, of Y of a RICK then");
        int[] leanX = {3 + 4, 3 + 4, 4, 0, 0, 0};
        int[] leanY = {4 + 5, 4, 4, 0, 0, 0};
        for (int n = 0; n <= 5; n++) {
            due("X of " + n, x.leanThen(0, n, 0, 0), leanX[n]);
            due("Y of " + n, x.leanThen(0, n, 0, 1), leanY[n]);
        }
        due("X of 24", x.leanThen(0, 24, 0, 0), 0);
        due("X now", x.lean(0, 0), 7);
    }

    private static void winterFirsts() {
        says("the first CUT that took a DOOR off");
        HayRemembers x = shelve(rickOf(820, 940, 960), 0, BYTES, 0, 0, 0);
        due("at DOORS of 9", x.winter(0, 24, 2), 1);
        due("of one CUT", x.winter(0, 1, 2), NOT);
        due("of no CUT", x.winter(0, 0, 2), NOT);
        x.mend(2, DOOR, 8);
        due("at a DOOR of 8", x.winter(0, 24, 2), 0);
        due("without one that does", shelve(rickOf(800), 0, BYTES, 0).winter(0, 24, 2), NOT);
        says("the first behind which its RICK did not STAND (CUTS left out count for none; NOT)");
        HayRemembers y = layOn(layOn(yard(2), 0, 920, 960), 1, 920, 920);
        y.mend(0, STAND, 8);
        shelve(y, 0, BYTES, 0, 0);
        due("it falls behind the first", y.winter(0, 24, 3), 0);
        due("of no CUT", y.winter(0, 0, 3), NOT);
        y.put(0, 0, 27);
        due("one left out, of a RICK that falls", y.winter(0, 1, 3), NOT);
        due("the one behind it", y.winter(0, 2, 3), 1);
        due("one left out takes no DOOR", y.winter(0, 1, 2), NOT);
        y.mend(0, STAND, 9);
        due("it STANDS by 9", y.winter(0, 2, 3), NOT);
        y.put(0, 0, 16);
        y.put(0, 1, 16);
        due("another RICK that is cut STANDS", y.winter(0, 2, 3), NOT);
        y.mend(0, STAND, 8);
        due("another RICK that is cut falls", y.winter(0, 1, 3), 0);
        due("none lies on it then", y.leanThen(0, 2, 1, 0), 0);
    }

    private static void winterMarks() {
        says("MARKS (bits 1 .. 7) that were let out");
        for (int mark = 0; mark <= 7; mark++) {
            HayRemembers x = shelve(rickOf(500 + mark, 500), 0, BYTES, 0, 0);
            due("MARK " + mark, x.winter(0, 24, 4), mark == 0 ? 0 : 1 << mark);
            due("of no CUT", x.winter(0, 0, 4), 0);
        }
        HayRemembers all = shelve(rickOf(101, 102, 103, 104, 105, 106, 107, 101, 100), 0, BYTES, 0, 0, 0, 0, 0, 0, 0, 0, 0);
        due("all MARKS", all.winter(0, 24, 4), 254);
        due("one MARK twice", shelve(rickOf(107, 107), 0, BYTES, 0, 0).winter(0, 2, 4), 128);
        HayRemembers nothing = shelve(mend(rickOf(107), 0, AGE, 99), 0, BYTES, 0);
        due("MARK of what keeps nothing", nothing.winter(0, 1, 4), 128);
    }

    /** A rick of so many layers, so many hours of FORCE 1 on a shelf, STAND 99. */
    private static HayRemembers hoursFor(int layers, int hours) {
        HayRemembers x = mend(high(layers, 140), 0, STAND, 99);
        x.row(0, SHORTS, hours);
        for (int i = 0; i < hours; i++) {
            x.put(0, i, 100);
        }
        return x;
    }

    private static void layMany() {
        says("LAY: HOURS (7 at most, else STATE, ahead of NOT)");
        for (int layers = 0; layers <= 12; layers++) {
            for (int hours = 0; hours <= 9; hours++) {
                int want = hours > 7 ? STATE : layers + hours > 12 ? NOT : hours == 0 ? 0 : GREATEST;
                int got = hoursFor(layers, hours).order(0, 0, -1);
                due(hours + " HOURS on " + layers, want == GREATEST && got >= 0 ? want : got, want);
            }
        }
        // Y 5 ahead of them, 4 behind the first, -2 behind the last
        due("7 on 5", hoursFor(5, 7).order(0, 0, -1), 4);
        due("6 on 6", hoursFor(6, 6).order(0, 0, -1), 5);
        due("STATE ahead of what has no k-th", hoursFor(0, 8).order(0, 0, 99), STATE);
        due("STATE ahead of what falls", mend(hoursFor(0, 8), 0, STAND, 0).order(0, 0, -1), STATE);
        says("laid on a RICK in an order, AGE 0");
        HayRemembers x = ruled(shelve(mend(rickOf(140), 0, AGE, 7), 0, SHORTS, 920, 920), "a");
        x.mend(0, STAND, 7);
        due("HOURS are new, what lay is not", x.order(0, 0, -1), 7);
        x.mend(0, STAND, 6);
        due("what lay falls", x.order(0, 0, -1), NOT);
        // what an older RICK had at that place is not theirs
        HayRemembers old = ruled(layOn(layOn(yard(2), 0, 120, 120, 120), 1, 120), "a+m");
        for (int i = 0; i <= 2; i++) {
            old.mend(i, AGE, 9);
        }
        due("WORTH of the older", old.worth(0, 3, -1), 27);
        due("HOURS by MARK alone", shelve(old, 0, SHORTS, 123, 124).order(0, 1, -1), 7);
        due("the first of like ones", old.order(0, 1, 0), 0);
        due("HOURS without one", shelve(old, 0, SHORTS, 120, 120).order(0, 1, -1), 0);
    }

    private static void layStanding() {
        says("behind each of which it STANDS");
        HayRemembers x = shelve(rickOf(920), 0, SHORTS, 320, 260);
        x.mend(0, STAND, 11);
        due("12 ahead of 10 falls by 11", x.order(0, 0, -1), 10);
        due("its first", x.order(0, 0, 0), 1);
        due("its second", x.order(0, 0, 1), 0);
        x.mend(0, STAND, 10);
        due("10 by 10", x.order(0, 0, -1), 10);
        x.mend(0, STAND, 9);
        due("10 by 9", x.order(0, 0, -1), NOT);
        HayRemembers last = shelve(mend(yard(1), 0, STAND, 5), 0, SHORTS, 520, 520);
        due("behind the last, too", last.order(0, 0, -1), NOT);
        due("behind the first alone", shelve(last, 0, SHORTS, 520, 560).order(0, 0, -1), 5);
        HayRemembers none = ruled(shelve(mend(yard(1), 0, STAND, 0), 0, SHORTS, 977, 977), "0");
        due("0 by 0", none.order(0, 0, -1), 0);
    }

    private static void layLeast() {
        says("the order in which the greatest LEAN behind any of them (the greater of X and Y, without signs) is least: that");
        due("X alone", shelve(yard(1), 0, SHORTS, 520).order(0, 0, -1), 5);
        due("X below 0", shelve(yard(1), 0, SHORTS, 560).order(0, 0, -1), 5);
        due("Y below 0", shelve(yard(1), 0, SHORTS, 500).order(0, 0, -1), 5);
        due("Y alone", shelve(yard(1), 0, SHORTS, 540).order(0, 0, -1), 5);
        due("both", shelve(yard(1), 0, SHORTS, 570).order(0, 0, -1), 5);
        HayRemembers x = shelve(yard(1), 0, SHORTS, 500, 140);
        due("4 behind 1", x.order(0, 0, -1), 4);
        due("its first", x.order(0, 0, 0), 1);
        // X 6, then Y 8 with X 6: the greater, not their sum
        due("the greater of both", shelve(yard(1), 0, SHORTS, 620, 840).order(0, 0, -1), 8);
        HayRemembers under = ruled(shelve(rickOf(920), 0, SHORTS, 120), "f-l*3");
        due("what lay is under one", under.order(0, 0, -1), 6 + 1);
        due("what lay is under two", shelve(under, 0, SHORTS, 120, 120).order(0, 0, -1), 7);
        HayRemembers numbered = ruled(shelve(rickOf(140), 0, SHORTS, 520, 560), "k*3");
        due("by its number", numbered.order(0, 0, -1), 3);
        HayRemembers each = ruled(shelve(yard(1), 0, SHORTS, 920, 160), "f-l*9");
        due("only the top keeps any", each.order(0, 0, -1), 9);
        due("9 last is like 9 first", each.order(0, 0, 0), 0);
        says("the k-th HOUR's place (of like ones the first by numbers, one behind the other)");
        HayRemembers like = shelve(yard(1), 0, SHORTS, 100, 100, 100, 100, 100, 100, 100);
        for (int k = 0; k <= 6; k++) {
            due("like ones, k " + k, like.order(0, 0, k), k);
        }
        due("no eighth", like.order(0, 0, 7), NOT);
        due("a far one", like.order(0, 0, GREATEST), NOT);
        due("k -2", like.order(0, 0, -2), BAD);
        due("k least", like.order(0, 0, LEAST), BAD);
        // 2 first, then 0 ahead of 1, which is like it
        HayRemembers y = shelve(yard(1), 0, SHORTS, 220, 220, 360);
        int[] places = {0, 2, 1};
        due("the greatest", y.order(0, 0, -1), 2);
        for (int k = 0; k <= 2; k++) {
            due("k " + k, y.order(0, 0, k), places[k]);
        }
    }

    private static void layNot() {
        says("NOT: none stands throughout, or there is no room");
        due("none stands throughout", shelve(mend(yard(1), 0, STAND, 0), 0, SHORTS, 100).order(0, 0, -1), NOT);
        due("nor its first", shelve(mend(yard(1), 0, STAND, 0), 0, SHORTS, 100).order(0, 0, 0), NOT);
        due("room for 1", hoursFor(11, 1).order(0, 0, -1), 10);
        due("no room for 1", hoursFor(12, 1).order(0, 0, -1), NOT);
        due("room for 7", hoursFor(5, 7).order(0, 0, 6), 6);
        due("no room for 7", hoursFor(6, 7).order(0, 0, 6), NOT);
    }

    private static void letOutMarks() {
        says("LET OUT: the fewest CUTS of a RICK, behind each of which it STANDS, the last of which lets a told MARK (1 .. 7) out");
        HayRemembers x = rickOf(101, 102, 103, 104, 105, 106, 107);
        takes("MARK", 1, 7, BAD, () -> rickOf(101, 102), (y, v) -> y.letOut(0, v, -1));
        for (int mark = 1; mark <= 7; mark++) {
            due("MARK " + mark, x.letOut(0, mark, -1), 1);
            due("its CUT", x.letOut(0, mark, 0), mark - 1);
        }
        // what is lowest lets its MARK out, and without it another that lies lowest makes the rick fall
        HayRemembers twelve = ruled(high(12, 120), "m?0;k?0;9");
        twelve.mend(0, MARK, 7);
        twelve.mend(0, STAND, 8);
        due("twelve CUTS", twelve.letOut(0, 7, -1), 12);
        for (int k = 0; k <= 10; k++) {
            due("CUT " + k, twelve.letOut(0, 7, k), k + 1);
        }
        due("the last CUT", twelve.letOut(0, 7, 11), 0);
        due("no thirteenth", twelve.letOut(0, 7, 12), NOT);
        twelve.mend(0, STAND, 9);
        due("by 9 one CUT", twelve.letOut(0, 7, -1), 1);
    }

    private static void letOutFewest() {
        says("the k-th CUT's LAYER, as its number is now (of like ones the first by numbers, one behind the other)");
        HayRemembers x = high(12, 127);
        due("one of twelve", x.letOut(0, 7, -1), 1);
        due("the first of like ones", x.letOut(0, 7, 0), 0);
        due("no second", x.letOut(0, 7, 1), NOT);
        due("a far one", x.letOut(0, 7, GREATEST), NOT);
        due("k -2", x.letOut(0, 7, -2), BAD);
        due("k least", x.letOut(0, 7, LEAST), BAD);
        // 1 or 2 has to be gone ahead of 0; its number then would be 0, too
        HayRemembers y = mend(rickOf(925, 960, 960, 925), 0, STAND, 9);
        due("it STANDS behind the first", y.letOut(0, 5, -1), 1);
        y.mend(0, STAND, 8);
        due("9 by 8", y.letOut(0, 5, -1), NOT);
        HayRemembers l = mend(ruled(rickOf(921, 960, 120), "f-l*9"), 0, STAND, 8);
        due("the top alone keeps any", l.letOut(0, 1, -1), 1);
        l.mend(2, FORCE, 9);
        due("the top falls", l.letOut(0, 1, -1), NOT);
        l.mend(2, FORCE, 1);
        l.mend(2, MARK, 2);
        due("what is below goes ahead of the top", l.letOut(0, 2, -1), 3);
        due("the lowest first", l.letOut(0, 2, 0), 0);
        HayRemembers days = mend(mend(rickOf(960, 925, 960), 0, STAND, 8), 1, AGE, 9);
        days.mend(0, AGE, 10);
        days.mend(2, AGE, 19);
        due("no days pass", days.letOut(0, 5, -1), 2);
        days.mend(2, AGE, 9);
        due("9 by 8, as no day passes", days.letOut(0, 5, 0), 2);
        HayRemembers z = mend(rickOf(960, 925, 960), 0, STAND, 9);
        due("two CUTS", z.letOut(0, 5, -1), 2);
        due("the first of like ones", z.letOut(0, 5, 0), 0);
        due("its number now", z.letOut(0, 5, 1), 1);
    }

    private static void letOutNot() {
        says("NOT.");
        due("no LAYERS", yard(1).letOut(0, 1, -1), NOT);
        due("no such MARK", rickOf(100, 102).letOut(0, 1, -1), NOT);
        due("none stands throughout", mend(rickOf(101, 120), 0, STAND, 0).letOut(0, 1, -1), NOT);
        due("the only one", mend(rickOf(101), 0, STAND, 0).letOut(0, 1, -1), 1);
        due("a full RICK without it", high(12, 100).letOut(0, 7, 0), NOT);
        // what was found on another RICK is not found here
        HayRemembers x = layOn(layOn(yard(2), 0, 960, 925, 960), 1, 960, 965, 960);
        x.mend(0, STAND, 9);
        due("by two CUTS", x.letOut(0, 5, -1), 2);
        due("each first CUT falls", x.letOut(1, 5, -1), NOT);
        due("by two CUTS again", x.letOut(0, 5, 1), 1);
    }

    private static void worth() {
        says("WORTH: t (0 .. 4) HOURS are sold from a RICK");
        takes("t", 0, 4, BAD, () -> high(12, 900), (x, v) -> x.worth(0, v, -1));
        for (int t = 0; t <= 4; t++) {
            due("WORTH of " + t, high(12, 900).worth(0, t, -1), 9 * t);
            due("k -2", high(12, 900).worth(0, t, -2), BAD);
            due("k t", high(12, 900).worth(0, t, t), BAD);
        }
        says("what each KEEPS as it is CUT is paid: the most: that");
        HayRemembers x = rickOf(100, 900, 300, 800, 200);
        int[] most = {0, 9, 17, 20, 22};
        for (int t = 0; t <= 4; t++) {
            due("the most of " + t, x.worth(0, t, -1), most[t]);
        }
        HayRemembers last = rickOf(800, 900, 900);
        due("the two that are last", last.worth(0, 2, -1), 18);
        due("their first", last.worth(0, 2, 0), 1);
        due("nothing is kept", ruled(last, "0").worth(0, 2, -1), 0);
        due("the first of like ones", last.worth(0, 2, 0), 0);
        due("the second of like ones", last.worth(0, 2, 1), 1);
        says("the LAYER of the k-th (as its number is now; of like ones the first by numbers)");
        for (int k = 0; k <= 3; k++) {
            due("like ones, k " + k, high(12, 900).worth(0, 4, k), k);
        }
        int[] layers = {1, 2, 3, 4};
        for (int k = 0; k <= 3; k++) {
            due("its number now, k " + k, x.worth(0, 4, k), layers[k]);
        }
        says("NOT: it hasn't so many");
        for (int high = 0; high <= 5; high++) {
            for (int t = 0; t <= 4; t++) {
                due("WORTH of " + t + " of " + high, high(high, 100).worth(0, t, -1), t > high ? NOT : t);
            }
        }
    }

    private static void worthByDays() {
        says("one each day from now (the first today; AGE of all LAYERS is one more each day)");
        for (int t = 0; t <= 4; t++) {
            due("ages of " + t + " days", ruled(high(4, 100), "a").worth(0, t, -1), t * (t - 1) / 2);
        }
        HayRemembers x = mend(mend(rickOf(500, 500), 0, AGE, 8), 1, AGE, 9);
        due("both as they are young", x.worth(0, 2, -1), 10);
        due("the one that is 10 tomorrow", x.worth(0, 2, 0), 1);
        due("the one that is 9 tomorrow", x.worth(0, 2, 1), 0);
        due("one is sold today", x.worth(0, 1, -1), 5);
        due("of like ones the first", x.worth(0, 1, 0), 0);
        HayRemembers old = ruled(rickOf(100, 100, 100, 100), "a-91");
        for (int i = 0; i < 4; i++) {
            old.mend(i, AGE, 98);
        }
        due("99 at most", old.worth(0, 4, -1), 7 + 8 + 8 + 8);
        due("AGE now", old.of(0, AGE), 98);
        due("DAY now", old.of(0, DAY), 0);
    }

    private static void dueFraction(String what, HayRemembers x, int rm, int t, long above, long below) {
        due(what + ", above", x.likely(rm, t, 0), above);
        due(what + ", below", x.likely(rm, t, 1), below);
    }

    private static void likely() {
        says("LIKELY: t (0 .. 12) CUTS of a RICK, any LAYER alike: how likely a told MARK is let out by one of them");
        takes("t", 0, 12, NO_LONG, () -> rickOf(101), (x, v) -> x.likely(1, v, 0));
        HayRemembers x = rickOf(101, 102, 102, 102, 103, 103, 103, 103, 103, 100, 100, 100);
        dueFraction("no CUT", x, 1, 0, 0, 1);
        dueFraction("one of 12 by 1", x, 1, 1, 1, 12);
        dueFraction("one of 12 by 6", x, 1, 6, 1, 2);
        dueFraction("one of 12 by 11", x, 1, 11, 11, 12);
        dueFraction("one of 12 by 12", x, 1, 12, 1, 1);
        dueFraction("three of 12 by 5", x, 2, 5, 37, 44);
        dueFraction("five of 12 by 6", x, 3, 6, 131, 132);
        dueFraction("five of 12 by 8", x, 3, 8, 1, 1);
        dueFraction("none of 12 by 12", x, 7, 12, 0, 1);
        says("a fraction in lowest terms (more than it has: all)");
        HayRemembers two = rickOf(101, 100);
        dueFraction("one of 2 by 1", two, 1, 1, 1, 2);
        for (int t = 2; t <= 12; t++) {
            dueFraction("one of 2 by " + t, two, 1, t, 1, 1);
            dueFraction("none of 2 by " + t, two, 2, t, 0, 1);
            dueFraction("no LAYERS by " + t, yard(1), 1, t, 0, 1);
        }
    }

    private static void mean() {
        says("MEAN of FORCE KEPT of a LAYER, any alike: a fraction (none: 0 by 1)");
        due("none, above", yard(1).mean(0, 0), 0);
        due("none, below", yard(1).mean(0, 1), 1);
        due("the most, above", high(12, 900).mean(0, 0), 9);
        due("the most, below", high(12, 900).mean(0, 1), 1);
        HayRemembers x = high(11, 900);
        x.lay(0, 100);
        due("100 by 12, above", x.mean(0, 0), 25);
        due("100 by 12, below", x.mean(0, 1), 3);
        due("by a law, above", ruled(high(4, 900), "7").mean(0, 0), 7);
        due("by a law, below", ruled(high(4, 900), "7").mean(0, 1), 1);
        due("of none by a law, above", ruled(yard(1), "7").mean(0, 0), 0);
        due("of none by a law, below", ruled(yard(1), "7").mean(0, 1), 1);
        HayRemembers nothing = ruled(high(12, 900), "0");
        due("nothing is kept, above", nothing.mean(0, 0), 0);
        due("nothing is kept, below", nothing.mean(0, 1), 1);
    }

    private static void judged() {
        says("WHAT LAY: a ROW of bytes: WAYS that were let out of a RICK, top LAYER by top LAYER, one behind the other");
        HayRemembers x = yard(1);
        x.row(0, BYTES, 60);
        for (int i = 0; i < 12; i++) {
            x.lay(0, 100 + 10 * (i % 8));
            x.put(0, 11 - i, i % 8);
        }
        due("more than there are", x.judge(0, 0), 12);
        says("JUDGED: the first that is not so (more than there are, too)");
        for (int i = 11; i >= 0; i--) {
            x.put(0, i, 8);
            due("no WAY at " + i, x.judge(0, 0), i);
            x.put(0, i, -1);
            due("below 0 at " + i, x.judge(0, 0), i);
        }
        due("one that is not there", shelve(yard(1), 0, BYTES, 0).judge(0, 0), 0);
        due("a byte that wraps to a WAY", shelve(rickOf(170), 0, BYTES, 256 + 7).judge(0, 0), NOT);
        due("a WAY by its lowest bits alone", shelve(rickOf(170), 0, BYTES, 15).judge(0, 0), 0);
        says("NOT.");
        due("an empty ROW", shelve(rickOf(100), 0, BYTES).judge(0, 0), NOT);
        due("an empty ROW of no LAYERS", shelve(yard(1), 0, BYTES).judge(0, 0), NOT);
        HayRemembers all = yard(1);
        all.row(0, BYTES, 12);
        for (int i = 0; i < 12; i++) {
            all.lay(0, 100 + 10 * (i % 8));
            all.put(0, 11 - i, i % 8);
        }
        due("all twelve", all.judge(0, 0), NOT);
    }

    private static void forces() {
        says("FORCES: by how many FORCES (1 .. 9) of its top LAYER it would STAND");
        for (int stand = 0; stand <= 10; stand++) {
            HayRemembers x = mend(rickOf(520), 0, STAND, stand);
            due("how many by " + stand, x.top(0, 0), Math.min(9, stand));
            due("the greatest by " + stand, x.top(0, 1), stand == 0 ? NOT : Math.min(9, stand));
        }
        says("the greatest (NOT)");
        HayRemembers x = mend(rickOf(960, 120), 0, STAND, 0);
        due("9 alone", x.top(0, 0), 1);
        due("it is 9", x.top(0, 1), 9);
        x.mend(0, FORCE, 1);
        due("1 alone", x.top(0, 0), 1);
        due("it is 1", x.top(0, 1), 1);
        x.mend(0, WAY, 2);
        due("none", x.top(0, 0), 0);
        due("no greatest", x.top(0, 1), NOT);
        HayRemembers ruled = mend(ruled(rickOf(120, 120), "l|k=0?9;f>5?0;f"), 0, STAND, 12);
        due("1, 2, 3 and 6 .. 9, with none on it", ruled.top(0, 0), 7);
        due("9 of them", ruled.top(0, 1), 9);
        due("no LAYERS", yard(1).top(0, 0), 0);
        due("no LAYERS, no greatest", yard(1).top(0, 1), NOT);
    }

    private static void ways() {
        says("WAYS: by which WAYS (bits) of its top LAYER it would STAND (no LAYERS: 0)");
        for (int way = 0; way <= 7; way++) {
            HayRemembers x = mend(rickOf(900 + 10 * ((way + 4) % 8), 900), 0, STAND, 0);
            due("one that evens it, " + way, x.top(0, 2), 1 << way);
        }
        due("all", mend(rickOf(900), 0, STAND, 9).top(0, 2), 255);
        due("none", mend(rickOf(900), 0, STAND, 8).top(0, 2), 0);
        due("no LAYERS", yard(1).top(0, 2), 0);
        due("no LAYERS by STAND 99", mend(yard(1), 0, STAND, 99).top(0, 2), 0);
    }

    private static void within() {
        says("WITHIN: who lies in a LAYER for n (0 .. 99) hours: inside pass n by 1 and what it KEEPS (cut): hours");
        takes("n", 0, 99, BAD, () -> rickOf(500), (x, v) -> x.hours(0, v));
        takes("n", 0, 99, BAD, () -> rickOf(500), (x, v) -> x.youngest(0, v));
        for (int force = 0; force <= 9; force++) {
            HayRemembers x = ruled(rickOf(100), "" + force);
            for (int n : new int[] {0, 1, force, force + 1, 2 * force + 1, 2 * force + 2, 98, 99}) {
                due(n + " hours in " + force, x.hours(0, n), n / (1 + force));
            }
        }
        HayRemembers many = yard(4);
        for (int rl = 0; rl < 12; rl++) {
            many.lay(rl / 3, 100 * (1 + (rl + rl / 3) % 9));
        }
        for (int rl = 0; rl < 12; rl++) {
            due("99 hours in " + rl, many.hours(16 * (rl / 3) + rl % 3, 99), 99 / (2 + (rl + rl / 3) % 9));
        }
        says("the LAYER in which one grows least older (of like ones the lowest)");
        due("of twelve like ones", high(12, 500).youngest(0, 99), 0);
        due("the top", rickOf(100, 200, 900).youngest(0, 99), 2);
        due("of two like ones", rickOf(100, 900, 900).youngest(0, 99), 1);
        due("0 and 0 by the cut", rickOf(700, 900).youngest(0, 7), 0);
        due("1 and 0", rickOf(700, 900).youngest(0, 8), 1);
        due("1 and 1 by the cut", rickOf(700, 900).youngest(0, 15), 0);
        due("2 and 1", rickOf(700, 900).youngest(0, 16), 1);
        due("by 0 hours", rickOf(100, 900).youngest(0, 0), 0);
        says("NOT: no LAYERS");
        due("no LAYERS", yard(1).youngest(0, 0), NOT);
        due("no LAYERS", yard(1).youngest(0, 99), NOT);
    }

    private static void byTurns() {
        says("BY TURNS: builder and wind lay by turns a LAYER of FORCE 5 (WAY any, MARK 0, AGE 0) on a RICK, n (1 .. 4) times");
        takes("n", 1, 4, BAD, () -> yard(1), (x, v) -> x.byTurns(0, v, 0));
        due("FORCE 5", yard(1).byTurns(0, 1, 0), 5);
        due("MARK 0", ruled(yard(1), "m?9;2").byTurns(0, 1, 0), 2);
        due("AGE 0", ruled(yard(1), "a?9;3").byTurns(0, 1, 0), 3);
        due("its FORCE by a law", ruled(yard(1), "f=5?1;9").byTurns(0, 1, 0), 1);
        due("its number by a law", ruled(rickOf(100, 100, 100), "k=3?7;0").byTurns(0, 1, 0), 7);
        due("numbers by a law", ruled(yard(1), "k*3").byTurns(0, 3, 0), 3);
        due("what lies on it by a law", ruled(yard(1), "l*3").byTurns(0, 3, 0), 6 + 3);
        due("what lies on what lay", ruled(rickOf(120), "k?0;l").byTurns(0, 4, 0), 4);
        due("AGE of what lay", mend(rickOf(920), 0, AGE, 10).byTurns(0, 1, 0), 3);
        says("NOT: there is no room");
        for (int high = 0; high <= 12; high++) {
            for (int n = 1; n <= 4; n++) {
                int got = high(high, 100).byTurns(0, n, 0);
                due(n + " on " + high, got >= 0 ? 1 : got, high + n > 12 ? NOT : 1);
                due(n + " on " + high, high(high, 100).byTurns(0, n, 1) == NOT ? NOT : 1, high + n > 12 ? NOT : 1);
            }
        }
    }

    private static void byTurnsBest() {
        says("the builder first: he wants the greater of X and Y, without signs, of LEAN least behind the last, "
            + "the wind greatest: that, if both do their best");
        HayRemembers x = high(8, 920);
        due("the builder alone", x.byTurns(0, 1, 0), 67);
        due("the wind last", x.byTurns(0, 2, 0), 72);
        due("the builder last", x.byTurns(0, 3, 0), 67);
        due("twice each", x.byTurns(0, 4, 0), 72);
        HayRemembers against = high(8, 900);
        due("the builder alone, Y below 0", against.byTurns(0, 1, 0), 67);
        due("the wind last, Y below 0", against.byTurns(0, 2, 0), 72);
        says("the builder's first WAY (of like ones the least)");
        due("any evens nothing", yard(1).byTurns(0, 1, 1), 0);
        due("any that leans left", x.byTurns(0, 1, 1), 5);
        due("any that leans down", against.byTurns(0, 1, 1), 3);
        for (int way = 0; way <= 7; way++) {
            HayRemembers one = rickOf(500 + 10 * ((way + 4) % 8));
            due("evened", one.byTurns(0, 1, 0), 0);
            due("evened by " + way, one.byTurns(0, 1, 1), way);
        }
    }
}
