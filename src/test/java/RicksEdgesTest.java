/** The sentences of "1 RICKS" that name a least, a greatest, what is beyond, empty or full, and what wraps. */
public final class RicksEdgesTest extends Sentences {
    private static final int[] RIGHT = {0, 1, 1, 1, 0, -1, -1, -1};
    private static final int[] DOWN = {-1, -1, 0, 1, 1, 1, 0, -1};

    public static void main(String[] args) {
        open("## Terms ======== 1 ", "======== 2 ");
        ricks();
        layers();
        numbersOfLayers();
        numbersOfTheYard();
        tape();
        lines();
        joined();
        compared();
        operands();
        names();
        opened();
        wrapping();
        truths();
        whichLine();
        faults();
        held();
        withoutText();
        lean();
        stands();
        cut();
        doors();
        hours();
        winters();
        wintersOfAllBytes();
        finish();
    }

    /** What a layer of FORCE 8, MARK 5, AGE 47, number 1 and 2 on it keeps at COLD 6. */
    private static int kept(String text) {
        HayRemembers x = mend(mend(rickOf(100, 835, 100, 100), 1, AGE, 47), 0, COLD, 6);
        return tell(x, text) == 1 ? x.keeps(1) : BAD;
    }

    private static void dueKept(String text, int want) {
        due("keeps() by " + text, kept(text), want);
    }

    /** A law whose fault is at a place. */
    private static void dueFault(String text, int place) {
        due("law() of " + text, tell(new HayRemembers(), text), -100 - place);
    }

    private static void ricks() {
        says("RICKS 0 .. 3, as they come");
        for (int n = 0; n <= 4; n++) {
            for (int rick = -1; rick <= 4; rick++) {
                due("of(" + rick + ", 8) of " + n, yard(n).of(rick, HEIGHT), rick >= 0 && rick < n ? 0 : BAD);
            }
        }
        HayRemembers x = new HayRemembers();
        for (int rick = 0; rick <= 3; rick++) {
            due("rick()", x.rick(), rick);
        }
        due("a fifth rick()", x.rick(), FULL);
    }

    private static void layers() {
        says("LAYERS, 0 the lowest, 12 at most");
        HayRemembers x = ruled(yard(1), "k");
        for (int i = 0; i <= 11; i++) {
            due("lay()", x.lay(0, 100), i);
            due("its number", x.keeps(i), Math.min(9, i));
        }
        due("a thirteenth lay()", x.lay(0, 100), FULL);
        due("keeps(12)", x.keeps(12), BAD);
        due("keeps(-1)", x.keeps(-1), BAD);
        x.cut(0);
        due("lay() where one is gone", x.lay(0, 100), 11);
    }

    private static void numbersOfLayers() {
        says("WAY (0 up, Y less; 1 up and right; 2 right; 3 down and right; 4 down; 5 down and left; 6 left; 7 up and left)");
        for (int way = 0; way <= 7; way++) {
            HayRemembers x = rickOf(300 + 10 * way);
            due("X of " + way, x.lean(0, 0), 3 * RIGHT[way]);
            due("Y of " + way, x.lean(0, 1), 3 * DOWN[way]);
        }
        due("WAY 8", yard(1).lay(0, 380), BAD);
        takes("WAY", 0, 7, BAD, () -> rickOf(330), (x, v) -> x.mend(0, WAY, v));
        says("FORCE (1 .. 9)");
        due("FORCE 0", yard(1).lay(0, 77), BAD);
        due("FORCE 1", yard(1).lay(0, 100), 0);
        due("FORCE 9", yard(1).lay(0, 977), 0);
        due("FORCE 10", yard(1).lay(0, 1000), BAD);
        takes("FORCE", 1, 9, BAD, () -> rickOf(500), (x, v) -> x.mend(0, FORCE, v));
        says("MARK (0 .. 7: what was heard; 0 nothing)");
        due("MARK 7", yard(1).lay(0, 107), 0);
        due("MARK 8", yard(1).lay(0, 108), BAD);
        due("MARK 9", yard(1).lay(0, 109), BAD);
        takes("MARK", 0, 7, BAD, () -> rickOf(503), (x, v) -> x.mend(0, MARK, v));
        due("MARKS of 0", shelve(rickOf(500), 0, BYTES, 0).winter(0, 1, 4), 0);
        says("AGE (0 .. 99 days; 0 at first)");
        due("AGE at first", rickOf(500).of(0, AGE), 0);
        takes("AGE", 0, 99, BAD, () -> rickOf(500), (x, v) -> x.mend(0, AGE, v));
    }

    private static void numbersOfTheYard() {
        says("COLD (0 .. 9; 0 at first)");
        due("COLD at first", new HayRemembers().of(0, COLD), 0);
        takes("COLD", 0, 9, BAD, HayRemembers::new, (x, v) -> x.mend(0, COLD, v));
        says("STAND (0 .. 99; 20 at first)");
        due("STAND at first", new HayRemembers().of(0, STAND), 20);
        takes("STAND", 0, 99, BAD, HayRemembers::new, (x, v) -> x.mend(0, STAND, v));
        says("DOOR of each WAY (1 .. 9; 9 at first: what takes it off)");
        for (int way = 0; way <= 7; way++) {
            int w = way;
            due("DOOR at first", new HayRemembers().of(way, DOOR), 9);
            takes("DOOR of " + way, 1, 9, BAD, HayRemembers::new, (x, v) -> x.mend(w, DOOR, v));
        }
        takes("WAY of a DOOR", 0, 7, BAD, HayRemembers::new, (x, v) -> x.of(v, DOOR));
        takes("WAY of a DOOR", 0, 7, BAD, HayRemembers::new, (x, v) -> x.mend(v, DOOR, 5));
        says("DAY (0 .. 99; 0 at first)");
        due("DAY at first", new HayRemembers().of(0, DAY), 0);
        takes("DAY", 0, 99, BAD, HayRemembers::new, (x, v) -> x.mend(0, DAY, v));
    }

    private static void tape() {
        says("THE LAW is a TEXT by THE TAPE (at most 120 bytes)");
        HayRemembers x = rickOf(100);
        due("119 bytes", feed(x, "0+0+".repeat(29) + "0+0"), 119);
        due("the 120th", x.feed('7'), 120);
        due("the 121st", x.feed('1'), FULL);
        due("law() of 120", x.law(), 1);
        due("by all 120, and no more", x.keeps(0), 7);
        // each byte of this one is a step of its own, and its last line counts
        dueKept("0?7;".repeat(29) + "!!!0", 1);
        dueKept("0?7;".repeat(29) + "9--0", 9);
        due("law() of none", x.law(), -100);
        due("THE LAW stays", x.keeps(0), 7);
        due("one byte", tell(x, "3"), 1);
        due("by one byte", x.keeps(0), 3);
    }

    private static void lines() {
        says("LINES, one or more, parted by ;");
        dueFault("", 0);
        dueKept("5", 5);
        dueKept("0?1;5", 5);
        dueKept("5;6", 5);
        dueKept("0?1;".repeat(29) + "7;88", 7);
        dueKept("0?1;".repeat(29) + "0?01", 0);
        dueKept("1;".repeat(59) + "11", 1);
        dueFault(";5", 0);
        dueFault("5;", 2);
        dueFault("5;;6", 2);
        dueFault("1;".repeat(60), 120);
        says("LINE: E, or E ? E (what counts if the first is not 0)");
        dueKept("0?5", 0);
        dueKept("1?5", 5);
        dueKept("-1?5", 5);
        dueKept("8192*8192*64?5", 0);
        dueKept("8192*8192*32?5", 5);
        dueFault("?5", 0);
        dueFault("1?", 2);
        dueFault("1??5", 2);
        dueFault("1?5?6", 3);
        dueFault("(1?5)", 2);
        dueFault("1?5;6?", 6);
    }

    private static void joined() {
        says("E = A { | A }");
        dueKept("7", 7);
        dueKept("0|0", 0);
        dueKept("0|7", 1);
        dueKept("0|".repeat(59) + "01", 1);
        dueKept("0|".repeat(59) + "00", 0);
        dueFault("|1", 0);
        dueFault("1|", 2);
        dueFault("1||1", 2);
        says("A = B { & B }");
        dueKept("3&7", 1);
        dueKept("1&0", 0);
        dueKept("1&".repeat(59) + "01", 1);
        dueKept("1&".repeat(59) + "00", 0);
        dueKept("1|0&0", 1);
        dueKept("0&0|1", 1);
        dueFault("&1", 0);
        dueFault("1&", 2);
        dueFault("1&&1", 2);
        says("S = P { + P, - P }");
        dueKept("9-1-1", 7);
        dueKept("9-1+1", 9);
        dueKept("9" + "-0".repeat(59), 9);
        dueKept("1+-1", 0);
        dueKept("1--1", 2);
        dueFault("+1", 0);
        dueFault("1+", 2);
        dueFault("1-", 2);
        dueFault("1++1", 2);
        dueFault("1-+1", 2);
        says("P = O { * O, / O, % O }");
        dueKept("9/2/2", 2);
        dueKept("9%5%3", 1);
        dueKept("8/4*2", 4);
        dueKept("2*3%4", 2);
        dueKept("7" + "*1".repeat(59), 7);
        dueKept("1+2*3", 7);
        dueKept("9-6/3", 7);
        dueFault("*1", 0);
        dueFault("1*", 2);
        dueFault("1/", 2);
        dueFault("1%", 2);
        dueFault("1**1", 2);
        dueFault("1/%1", 2);
    }

    private static void compared() {
        says("B = S, or S < S, S = S, S > S");
        dueKept("3", 3);
        for (int b = 1; b <= 3; b++) {
            dueKept("2<" + b, 2 < b ? 1 : 0);
            dueKept("2=" + b, 2 == b ? 1 : 0);
            dueKept("2>" + b, 2 > b ? 1 : 0);
        }
        for (String sign : new String[] {"<", "=", ">"}) {
            for (String then : new String[] {"<", "=", ">"}) {
                dueFault("1" + sign + "2" + then + "3", 3);
                dueKept("((1" + sign + "2)" + then + "3)*0+4", 4);
                dueFault("1" + sign + then + "2", 2);
            }
            dueFault(sign + "1", 0);
            dueFault("1" + sign, 2);
        }
        dueKept("1<2&2<3|0", 1);
        dueKept("1+1<2+1", 1);
    }

    private static void operands() {
        says("O = a number (1 to 4 digits), a NAME, ! O, - O, ( E )");
        dueKept("7", 7);
        dueKept("0007", 7);
        dueKept("9999=9998+1", 1);
        dueFault("00007", 4);
        dueFault("12345", 4);
        dueFault("1+12345", 6);
        dueFault("1f", 1);
        dueFault("f1", 1);
        dueFault("ff", 1);
        dueFault("", 0);
        dueKept("!0", 1);
        dueKept("!7", 0);
        dueKept("!!7", 1);
        dueKept("9+-7", 2);
        dueKept("--7", 7);
        dueKept("(7)", 7);
        dueKept("-1*2+9", 7);
        dueKept("!1+5", 5);
        dueKept("!(1+5)", 0);
        dueFault("()", 1);
        dueFault("(7", 2);
        dueFault("7)", 1);
        dueFault("(7))", 3);
        dueFault("!", 1);
        dueFault("-", 1);
        dueFault("(", 1);
        dueFault("(!)", 2);
        says("No blanks");
        for (String blank : new String[] {" ", "\t", "\n", "\r", "\0", "\u00a0"}) {
            dueFault(blank + "1", 0);
            dueFault("1" + blank, 1);
            dueFault("1+" + blank + "1", 2);
            dueFault("1" + blank + "+1", 1);
        }
    }

    private static void names() {
        says("NAMES: f FORCE, a AGE, l how many LAYERS lie on it, m MARK, c COLD, k its number");
        for (int letter = 0; letter <= 255; letter++) {
            HayRemembers x = new HayRemembers();
            x.feed(letter);
            boolean stands = "falmck0123456789".indexOf(letter) >= 0;
            boolean goesOn = "!-(".indexOf(letter) >= 0;
            due("law() of the byte " + letter, x.law(), stands ? 1 : goesOn ? -101 : -100);
        }
        HayRemembers x = high(12, 100);
        x.mend(11, FORCE, 9);
        x.mend(11, MARK, 7);
        x.mend(11, AGE, 99);
        due("f, least", named(x, 0, "f=1"), 1);
        due("f, greatest", named(x, 11, "f=9"), 1);
        due("a, least", named(x, 0, "a=0"), 1);
        due("a, greatest", named(x, 11, "a=99"), 1);
        due("l, greatest", named(x, 0, "l=11"), 1);
        due("l, least", named(x, 11, "l=0"), 1);
        due("m, least", named(x, 0, "m=0"), 1);
        due("m, greatest", named(x, 11, "m=7"), 1);
        due("c, least", named(x, 0, "c=0"), 1);
        due("k, least", named(x, 0, "k=0"), 1);
        due("k, greatest", named(x, 11, "k=11"), 1);
        x.mend(0, COLD, 9);
        due("c, greatest", named(x, 5, "c=9"), 1);
    }

    private static int named(HayRemembers x, int layer, String text) {
        return tell(x, text) == 1 ? x.keeps(layer) : BAD;
    }

    private static void opened() {
        says("At most 6 of ( ! - ahead of an O are open at once");
        for (int set = 0; set < 729; set++) {
            StringBuilder six = new StringBuilder();
            StringBuilder closed = new StringBuilder();
            for (int i = 0, left = set; i < 6; i++, left /= 3) {
                six.append("(!-".charAt(left % 3));
                closed.append(left % 3 == 0 ? ")" : "");
            }
            due("six " + six, tell(new HayRemembers(), six + "1" + closed), 1);
            for (String seventh : new String[] {"(1)", "!1", "-1"}) {
                dueFault(six + seventh, 6);
            }
        }
        dueKept("((((((7))))))", 7);
        dueKept("------7", 7);
        dueKept("!!!!!!7", 1);
        dueFault("(((((((7)))))))", 6);
        // each is closed behind its O
        dueKept("((((((1))))))+((((((2))))))", 3);
        dueKept("------1+------2", 3);
        dueKept("9-------7", 2);
        dueFault("9--------7", 8);
        dueKept("0?------1;------2", 2);
        dueKept("(((((1+(2)+(3)+-1)))))", 5);
        dueFault("(((((1+(2+(3))))))", 10);
        dueKept("((((((1))))))?((((((4))))))", 4);
    }

    private static void wrapping() {
        says("Ints that wrap");
        int most = Integer.MAX_VALUE;
        // 8192 * 8192 * 32 is one more than the greatest int
        String least = "8192*8192*32";
        dueKept(least + "<0", 1);
        dueKept(least + "-1>0", 1);
        dueKept("-(" + least + ")<0", 1);
        dueKept("(" + least + "-1)+1=" + least, 1);
        dueKept(least + "/-1=" + least, 1);
        dueKept(least + "%-1", 0);
        dueKept(least + "*2", 0);
        dueKept("8192*8192*64+5", 5);
        dueKept("(" + least + "-1)*2+9", most * 2 + 9);
        int product = 9999 * 9999;
        product = product * 9999;
        dueKept("9999*9999*9999<0", product < 0 ? 1 : 0);
        // -1027349969: what is left over is below 0, too
        dueKept("0-9999*9999*9999/1000/1000%10", -(product / 1000000 % 10));
        says("/ and % toward 0, by 0 they give 0");
        dueKept("-7/2+9", 6);
        dueKept("7/-2+9", 6);
        dueKept("-7/-2", 3);
        dueKept("-7%2+9", 8);
        dueKept("7%-2", 1);
        dueKept("-1/2", 0);
        dueKept("f/0", 0);
        dueKept("f%0", 0);
        dueKept("0/0+0%0+4", 4);
        dueKept("9-f/(2-2)", 9);
        dueKept(least + "/0+3", 3);
    }

    private static void truths() {
        says("| & < = > ! give 1, 0");
        dueKept("3|4", 1);
        dueKept("0|0", 0);
        dueKept("3&4", 1);
        dueKept("4&0", 0);
        dueKept("-1|0", 1);
        dueKept("-1&-1", 1);
        dueKept("5<7", 1);
        dueKept("7<7", 0);
        dueKept("7=7", 1);
        dueKept("7=8", 0);
        dueKept("7>5", 1);
        dueKept("7>7", 0);
        dueKept("!0", 1);
        dueKept("!-1", 0);
        dueKept("!5", 0);
        for (String truth : new String[] {"7<5", "5=7", "5>7", "3&0", "0&3", "0&0", "0|0", "!3"}) {
            dueKept("(" + truth + ")+4", 4);
        }
        for (String truth : new String[] {"5<7", "5=5", "7>5", "3&3", "0|3", "3|0", "3|3", "!0"}) {
            dueKept("(" + truth + ")+4", 5);
        }
        says("all is worked out");
        dueKept("0&1/0", 0);
        dueKept("1|1%0", 1);
        dueKept("1|0/0&0", 1);
    }

    private static void whichLine() {
        says("The first LINE without a first E, or whose first E is not 0, counts; none: 0");
        dueKept("0?5", 0);
        dueKept("0?5;0?6", 0);
        dueKept("0?5;1?6;7", 6);
        dueKept("0?5;6;7", 6);
        dueKept("0;7", 0);
        dueKept("1?0;7", 0);
        dueKept("-1?5;7", 5);
        dueKept("0?9;".repeat(29) + "8", 8);
        dueKept("0?9;".repeat(29) + "1?8", 8);
        dueKept("0?9;".repeat(29) + "0?8", 0);
    }

    private static void faults() {
        says("FAULT: the place (from 0) of the first byte with which no TEXT goes on; the length, if it ends too early");
        dueFault("x", 0);
        dueFault("xx", 0);
        dueFault("1x", 1);
        dueFault("1+x+y", 2);
        dueFault("1+2+", 4);
        dueFault("1;x", 2);
        dueFault("1?x", 2);
        dueFault("(1+2", 4);
        dueFault("(1+2;", 4);
        dueFault("1".repeat(120), 4);
        dueFault("1+".repeat(60), 120);
        dueFault("1+".repeat(59) + "1x", 119);
        dueFault("1+".repeat(59) + "((", 120);
        dueFault("F", 0);
        dueFault("\u00ff", 0);
        dueFault("1\u00e6", 1);
        HayRemembers x = rickOf(900);
        due("a law", tell(x, "4"), 1);
        due("a fault", tell(x, "4+"), -102);
        due("THE LAW stays", x.keeps(0), 4);
    }

    private static void held() {
        says("It gives how much FORCE of a LAYER is KEPT (held within 0 .. 9)");
        dueKept("0-1", 0);
        dueKept("0", 0);
        dueKept("1", 1);
        dueKept("8", 8);
        dueKept("9", 9);
        dueKept("10", 9);
        dueKept("9999", 9);
        dueKept("8192*8192*32", 0);
        dueKept("8192*8192*32-1", 9);
    }

    private static void withoutText() {
        says("Without a text: f, less a by 10 (cut)");
        for (int force = 1; force <= 9; force++) {
            for (int age : new int[] {0, 9, 10, 19, 20, 89, 90, 98, 99}) {
                int want = Math.max(0, force - age / 10);
                due("FORCE " + force + " of AGE " + age, mend(rickOf(100 * force), 0, AGE, age).keeps(0), want);
            }
        }
    }

    private static void lean() {
        says("LEAN of a RICK: of X and of Y the sum of what all its LAYERS KEEP, each its WAY "
            + "(along both for 1, 3, 5, 7; against it below 0)");
        due("X of none", yard(1).lean(0, 0), 0);
        due("Y of none", yard(1).lean(0, 1), 0);
        for (int way = 0; way <= 7; way++) {
            HayRemembers x = high(12, 900 + 10 * way);
            due("X, farthest by " + way, x.lean(0, 0), 108 * RIGHT[way]);
            due("Y, farthest by " + way, x.lean(0, 1), 108 * DOWN[way]);
        }
        HayRemembers x = rickOf(910, 950, 870, 830);
        due("X of all ways", x.lean(0, 0), 0);
        due("Y of all ways", x.lean(0, 1), 0);
        // what does not lie there keeps nothing, whatever the law says of it
        HayRemembers ruled = ruled(layOn(layOn(yard(2), 0, 120, 120), 1, 120), "5");
        due("X of two", ruled.lean(0, 0), 10);
        due("Y of two", ruled.lean(0, 1), 0);
        due("X of one", ruled.lean(1, 0), 5);
        due("X of none", ruled(yard(1), "5").lean(0, 0), 0);
        due("Y of none", ruled(yard(1), "5").lean(0, 1), 0);
    }

    private static void stands() {
        says("It STANDS, if X and Y are STAND at most, either way");
        // 99, 100 along or against X, Y, and along both
        for (int way = 0; way <= 7; way++) {
            HayRemembers x = mend(high(11, 900 + 10 * way), 0, STAND, 99);
            due("99 by 99, way " + way, x.lean(0, 2), 1);
            x.mend(0, STAND, 98);
            due("99 by 98, way " + way, x.lean(0, 2), 0);
            x.mend(0, STAND, 99);
            x.lay(0, 100 + 10 * way);
            due("100 by 99, way " + way, x.lean(0, 2), 0);
            HayRemembers y = mend(rickOf(100 + 10 * way), 0, STAND, 0);
            due("1 by 0, way " + way, y.lean(0, 2), 0);
            y.mend(0, AGE, 10);
            due("0 by 0, way " + way, y.lean(0, 2), 1);
        }
        due("none by 0", mend(yard(1), 0, STAND, 0).lean(0, 2), 1);
        due("20 by 20", rickOf(920, 920, 220).lean(0, 2), 1);
        due("21 by 20", rickOf(920, 920, 320).lean(0, 2), 0);
    }

    private static void cut() {
        says("A CUT takes a LAYER out; those above it come down by one");
        for (int layer = 0; layer <= 11; layer++) {
            HayRemembers x = yard(1);
            for (int i = 0; i < 12; i++) {
                x.lay(0, 100 + 10 * (i % 8) + i / 2);
                x.mend(i, AGE, i);
            }
            x.cut(layer);
            due("how many", x.of(0, HEIGHT), 11);
            for (int i = 0; i < 11; i++) {
                int was = i < layer ? i : i + 1;
                due("WAY of " + i, x.of(i, WAY), was % 8);
                due("MARK of " + i, x.of(i, MARK), was / 2);
                due("AGE of " + i, x.of(i, AGE), was);
            }
            due("the twelfth is gone", x.of(11, WAY), BAD);
        }
        HayRemembers one = rickOf(500);
        due("the only one", one.cut(0), 5);
        due("none lies", one.of(0, HEIGHT), 0);
    }

    private static void doors() {
        says("What it KEEPS (as it lay) is let out: it BLOWS its WAY; a DOOR of that WAY comes off, if it is as much as it or more");
        HayRemembers x = ruled(rickOf(100, 100, 100), "3*k+l");
        due("the lowest as it lay", x.cut(0), 2);
        due("the top as it lay", x.cut(1), 3);
        for (int force = 1; force <= 9; force++) {
            for (int door = 1; door <= 9; door++) {
                HayRemembers y = mend(rickOf(100 * force + 30), 3, DOOR, door);
                y.cut(0);
                due("FORCE " + force + " at a DOOR of " + door, y.led(3), force >= door ? 1 : 0);
            }
        }
        for (int way = 0; way <= 7; way++) {
            for (int other = 0; other <= 7; other++) {
                HayRemembers y = mend(rickOf(500 + 10 * way), other, DOOR, 5);
                y.cut(0);
                due("WAY " + way + ", DOOR of " + other, y.led(3), way == other ? 1 : 0);
            }
        }
        // of the RICK and the LAYER that are told, and of no others
        HayRemembers many = mend(yard(4), 5, DOOR, 4);
        for (int rick = 0; rick <= 3; rick++) {
            layOn(many, rick, 410, 420, 450, 440);
        }
        for (int rick = 3; rick >= 0; rick--) {
            due("it BLOWS", many.cut(16 * rick + 1), 4);
            due("another WAY", many.led(3), 3 - rick);
            due("it BLOWS", many.cut(16 * rick + 1), 4);
            due("its WAY", many.led(3), 4 - rick);
        }
        HayRemembers nothing = mend(mend(rickOf(100), 0, AGE, 99), 0, DOOR, 1);
        due("it keeps nothing", nothing.cut(0), 0);
        due("nothing takes no door off", nothing.led(3), 0);
    }

    /** How many HOURS stand in a row: order() has a k-th for each. */
    private static int hoursOf(long... row) {
        HayRemembers x = shelve(mend(yard(1), 0, STAND, 99), 0, SHORTS, row);
        int n = 0;
        while (n < 8 && x.order(0, 0, n) >= 0) {
            n++;
        }
        return n;
    }

    private static void hours() {
        says("HOURS: a ROW of shorts on a SHELF: each 1 and more: 100 times FORCE, 10 times WAY, and MARK "
            + "(12 at most; it ends with what is no such: FORCE 1 .. 9, WAY 0 .. 7, MARK 0 .. 7)");
        for (int v = -1100; v <= 1100; v++) {
            boolean right = v >= 100 && v <= 977 && v / 10 % 10 <= 7 && v % 10 <= 7;
            due("HOURS with " + v, hoursOf(500, v, 500), right ? 3 : 1);
        }
        for (int v : new int[] {-32768, -32767, 32767, 32000, 10100, 5000}) {
            due("HOURS with " + v, hoursOf(500, v, 500), 1);
        }
        due("a short that wraps to one", hoursOf(500, 65536 + 500, 65536 * 3L + 977), 3);
        due("no elements", hoursOf(), 0);
        due("it ends at its first", hoursOf(0, 500), 0);
        for (int n : new int[] {8, 11, 12, 13, 60}) {
            HayRemembers x = yard(1);
            x.row(0, SHORTS, n);
            due("a row of " + n + " that are none", x.order(0, 0, -1), 0);
            for (int i = 0; i < n; i++) {
                x.put(0, i, 100);
            }
            due("a row of " + n, x.order(0, 0, -1), STATE);
        }
    }

    private static void winters() {
        says("A WINTER: a ROW of bytes: CUTS, one behind the other: 16 times the RICK, and the LAYER's number as it is then");
        HayRemembers x = layOn(layOn(yard(2), 0, 100, 200, 300), 1, 400, 500);
        shelve(x, 0, BYTES, 0, 0, 0, 17, 16);
        int[] blown = {0, 1, 3, 6, 11, 15};
        for (int n = 0; n <= 5; n++) {
            due("FORCE of " + n, x.winter(0, n, 1), blown[n]);
            due("how many of " + n, x.winter(0, n, 0), n);
        }
        says("24 at most");
        HayRemembers full = yard(4);
        full.row(0, BYTES, 60);
        for (int i = 0; i < 60; i++) {
            full.put(0, i, 16 * (i / 12 % 4));
        }
        for (int rick = 0; rick < 4; rick++) {
            for (int i = 0; i < 12; i++) {
                full.lay(rick, 100);
            }
        }
        due("23", full.winter(0, 23, 0), 23);
        due("24", full.winter(0, 24, 0), 24);
        due("25", full.winter(0, 25, 0), BAD);
        due("FORCE of 24", full.winter(0, 24, 1), 24);
        says("one that is not there is left out");
        HayRemembers one = rickOf(100, 200);
        shelve(one, 0, BYTES, 2, 11, 1, 1, 0, 0);
        int[] made = {0, 0, 0, 1, 1, 2, 2};
        for (int n = 0; n <= 6; n++) {
            due("how many of " + n, one.winter(0, n, 0), made[n]);
        }
    }

    private static void wintersOfAllBytes() {
        says("it ends with what is no RICK there, below 0, or has 12 and more");
        for (int ricks = 0; ricks <= 4; ricks++) {
            HayRemembers x = null;
            for (int v = -128; v <= 127; v++) {
                if (v % 64 == 0) {
                    x = yard(ricks);
                    for (int rick = 0; rick < ricks; rick++) {
                        layOn(x, rick, 100, 100, 100);
                    }
                    shelve(x, 0, BYTES, 0, 0);
                }
                x.put(0, 0, v);
                boolean ends = v < 0 || v / 16 >= ricks || v % 16 >= 12;
                int want = ends || ricks == 0 ? 0 : v % 16 < 3 ? 2 : 1;
                due("CUT " + v + " of " + ricks + " RICKS", x.winter(0, 24, 0), want);
            }
        }
    }
}
