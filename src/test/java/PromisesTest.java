/** What the document's promises say, each by calls with the answers that are due. */
public final class PromisesTest {
    private static final int BAD = -1, NOT = -2, FULL = -3, STATE = -5, VOID = -2000000000;
    private static final long NO_LONG = Long.MIN_VALUE;
    private static int wrong = 0;
    private static int promise = 0;

    private static void due(String call, long got, long want) {
        if (got != want) {
            wrong++;
            System.out.println("promise " + promise + ": " + call + " answered " + got + ", due is " + want);
        }
    }

    /** A yard of so many ricks, none with a layer. */
    private static HayRemembers yard(int ricks) {
        HayRemembers x = new HayRemembers();
        for (int i = 0; i < ricks; i++) {
            x.rick();
        }
        return x;
    }

    /** One rick with these layers. */
    private static HayRemembers rickOf(int... hours) {
        HayRemembers x = yard(1);
        for (int hour : hours) {
            x.lay(0, hour);
        }
        return x;
    }

    private static int tell(HayRemembers x, String text) {
        for (int i = 0; i < text.length(); i++) {
            x.feed(text.charAt(i));
        }
        return x.law();
    }

    private static void shelve(HayRemembers x, int shelf, int sort, long... values) {
        x.row(shelf, sort, values.length);
        for (int i = 0; i < values.length; i++) {
            x.put(shelf, i, values[i]);
        }
    }

    public static void main(String[] args) {
        newObject();
        rick();
        lay();
        layers();
        mend();
        mendRefuses();
        of();
        feed();
        law();
        lawFaults();
        keeps();
        lean();
        winter();
        winterEnds();
        leanThen();
        order();
        letOut();
        worth();
        likely();
        mean();
        judge();
        top();
        hours();
        youngest();
        byTurns();
        drawn();
        cut();
        day();
        led();
        image();
        back();
        undo();
        undoOfLayers();
        redo();
        body();
        act();
        trace();
        keep();
        row();
        put();
        element();
        shift();
        taken();
        count();
        constants();
        otherRicks();
        layersThatFit();
        lawsOnTheEdge();
        orderByLaw();
        letOutByMany();
        letOutByLaw();
        worthByLaw();
        turnsByLaw();
        thoughtByLaw();
        drawnOn();
        changesOnTheEdge();
        System.out.println(wrong == 0 ? "all promises hold" : wrong + " answers are not as due");
        if (wrong != 0) {
            System.exit(1);
        }
    }

    private static void newObject() {
        promise = 1;
        HayRemembers x = new HayRemembers();
        due("count(0)", x.count(0), 0);
        due("count(1)", x.count(1), 0);
        due("count(2)", x.count(2), 0);
        due("count(3)", x.count(3), 0);
        due("count(4)", x.count(4), 0);
        due("count(5)", x.count(5), 0);
        due("of COLD", x.of(0, 4), 0);
        due("of STAND", x.of(0, 5), 20);
        due("of DAY", x.of(0, 6), 0);
        for (int way = 0; way <= 7; way++) {
            due("of DOOR", x.of(way, 7), 9);
        }
        for (int what = 0; what <= 4; what++) {
            due("led", x.led(what), 0);
        }
        for (int shelf = 0; shelf <= 5; shelf++) {
            due("taken", x.taken(shelf, 0), -11);
        }
        due("no rick", x.of(0, 8), BAD);
        due("no image", x.back(), STATE);
        due("no change", x.undo(), STATE);
        due("nothing undone", x.redo(), STATE);
    }

    private static void rick() {
        promise = 2;
        HayRemembers x = new HayRemembers();
        for (int i = 0; i < 4; i++) {
            due("rick()", x.rick(), i);
            due("it is empty", x.of(i, 8), 0);
        }
        due("a fifth", x.rick(), FULL);
        due("count", x.count(0), 4);
    }

    private static void lay() {
        promise = 3;
        HayRemembers x = yard(2);
        due("no rick", x.lay(2, 500), BAD);
        due("rick below 0", x.lay(-1, 500), BAD);
        due("force 0", x.lay(0, 77), BAD);
        due("force 10", x.lay(0, 1000), BAD);
        due("way 8", x.lay(0, 580), BAD);
        due("mark 8", x.lay(0, 508), BAD);
        due("below 0", x.lay(0, -500), BAD);
        due("least int", x.lay(0, Integer.MIN_VALUE), BAD);
        due("greatest int", x.lay(0, Integer.MAX_VALUE), BAD);
        due("nothing was laid", x.count(1) + x.led(0), 0);
        for (int i = 0; i < 12; i++) {
            due("lay", x.lay(0, 977), i);
        }
        due("a thirteenth", x.lay(0, 977), FULL);
        due("BAD is named first", x.lay(0, 978), BAD);
        due("WAY", x.of(11, 0), 7);
        due("FORCE", x.of(11, 1), 9);
        due("MARK", x.of(11, 2), 7);
        due("AGE", x.of(11, 3), 0);
        due("other rick", x.lay(1, 100), 0);
        due("LED", x.led(0), 13);
        x.mend(0, 3, 50);
        x.cut(0);
        due("lay where an old one lay", x.lay(0, 345), 11);
        due("AGE 0 at first", x.of(11, 3), 0);
    }

    private static void layers() {
        promise = 4;
        HayRemembers x = yard(2);
        shelve(x, 0, 0, 1, 2, 3, 7, 9, 7, 0, 1, 0, 4, 5);
        due("three came, a three was cut short", x.layers(0, 0, 12), 3);
        due("WAY", x.of(0, 0), 1);
        due("FORCE", x.of(0, 1), 2);
        due("MARK", x.of(0, 2), 3);
        due("second WAY", x.of(1, 0), 7);
        due("LED as LAID", x.led(0), 3);
        due("n of them", x.layers(0, 0, 102), 2);
        due("from a place on", x.layers(0, 6, 101), 1);
        due("its FORCE", x.of(18, 1), 1);
        due("behind its end", x.layers(0, 11, 1), 0);
        due("a far place", x.layers(0, Integer.MAX_VALUE, 12), 0);
        due("a place below 0", x.layers(0, -1, 12), 0);
        due("missing", x.layers(5, 0, 1), 0);
        shelve(x, 1, 1, 1, 2, 3);
        due("shorts", x.layers(1, 0, 1), -12);
        x.body(0);
        x.keep(2, 0);
        due("a body", x.layers(2, 0, 1), -12);
        due("BAD ahead of -12", x.layers(2, 0, 0), BAD);
        due("no shelf", x.layers(6, 0, 1), BAD);
        due("shelf below 0", x.layers(-1, 0, 1), BAD);
        due("no rick", x.layers(0, 0, 201), BAD);
        due("rn below 0", x.layers(0, 0, -1), BAD);
        due("n 13", x.layers(0, 0, 13), BAD);
        due("n 0", x.layers(0, 0, 100), BAD);
        shelve(x, 3, 0, 0, 1, 0, 8, 1, 0);
        due("ends at WAY 8", x.layers(3, 0, 2), 1);
        due("WAY 8", x.layers(3, 3, 1), 0);
        shelve(x, 3, 0, 0, 0, 0, 0, 10, 0, 0, 1, 8, 0, 1, -1, -1, 1, 0, 0, -1, 0);
        for (int i = 0; i < 18; i += 3) {
            due("no layer at " + i, x.layers(3, i, 1), 0);
        }
        x.row(4, 0, 60);
        for (int i = 1; i < 60; i += 3) {
            x.put(4, i, 9);
        }
        due("until there is no room", x.layers(4, 0, 12), 8);
        due("12 lie", x.of(0, 8), 12);
        due("no room", x.layers(4, 0, 12), 0);
    }

    private static void mend() {
        promise = 5;
        HayRemembers x = yard(2);
        x.lay(1, 523);
        due("WAY", x.mend(16, 0, 7), 2);
        due("FORCE", x.mend(16, 1, 9), 5);
        due("MARK", x.mend(16, 2, 0), 3);
        due("AGE", x.mend(16, 3, 99), 0);
        due("COLD", x.mend(0, 4, 9), 0);
        due("STAND", x.mend(0, 5, 0), 20);
        due("DAY", x.mend(0, 6, 99), 0);
        due("DOOR", x.mend(7, 7, 1), 9);
        due("8 changes", x.count(3), 8);
        due("the same is none", x.mend(16, 0, 7), 7);
        due("8 still", x.count(3), 8);
        due("of WAY", x.of(16, 0), 7);
        due("of FORCE", x.of(16, 1), 9);
        due("of MARK", x.of(16, 2), 0);
        due("of AGE", x.of(16, 3), 99);
        due("of COLD", x.of(0, 4), 9);
        due("of STAND", x.of(0, 5), 0);
        due("of DAY", x.of(0, 6), 99);
        due("of DOOR", x.of(7, 7), 1);
        due("of another DOOR", x.of(6, 7), 9);
    }

    private static void mendRefuses() {
        promise = 5;
        HayRemembers x = rickOf(523);
        int[][] bad = {
            {1, 0, 1}, {16, 0, 1}, {-1, 0, 1}, {0, 0, 8}, {0, 0, -1}, {0, 1, 0}, {0, 1, 10}, {0, 2, 8}, {0, 2, -1},
            {0, 3, 100}, {0, 3, -1}, {0, 4, 10}, {0, 4, -1}, {1, 4, 1}, {0, 5, 100}, {0, 5, -1}, {1, 5, 1},
            {0, 6, 100}, {0, 6, -1}, {1, 6, 1}, {8, 7, 1}, {-1, 7, 1}, {0, 7, 0}, {0, 7, 10}, {0, 8, 1}, {0, -1, 1},
            {0, 9, 1}, {Integer.MIN_VALUE, 0, 1}, {Integer.MAX_VALUE, 3, 1}, {0, Integer.MIN_VALUE, 1}};
        for (int[] b : bad) {
            due("mend(" + b[0] + ", " + b[1] + ", " + b[2] + ")", x.mend(b[0], b[1], b[2]), BAD);
        }
        due("no change", x.count(3), 0);
        due("of WAY", x.of(0, 0), 2);
    }

    private static void of() {
        promise = 6;
        HayRemembers x = rickOf(523, 714);
        x.rick();
        due("of WAY", x.of(1, 0), 1);
        due("of FORCE", x.of(1, 1), 7);
        due("of MARK", x.of(1, 2), 4);
        due("of AGE", x.of(1, 3), 0);
        due("layers", x.of(0, 8), 2);
        due("layers of an empty one", x.of(1, 8), 0);
        due("no rick", x.of(2, 8), BAD);
        due("rick below 0", x.of(-1, 8), BAD);
        due("what 9", x.of(0, 9), BAD);
        due("what -1", x.of(0, -1), BAD);
        due("no layer", x.of(2, 0), BAD);
        due("COLD has number 0", x.of(1, 4), BAD);
        due("STAND has number 0", x.of(1, 5), BAD);
        due("DAY has number 0", x.of(1, 6), BAD);
        due("no way", x.of(8, 7), BAD);
    }

    private static void feed() {
        promise = 7;
        HayRemembers x = new HayRemembers();
        due("feed(0)", x.feed(0), 1);
        due("feed(255)", x.feed(255), 2);
        due("feed(256)", x.feed(256), BAD);
        due("feed(-1)", x.feed(-1), BAD);
        for (int i = 3; i <= 120; i++) {
            due("feed", x.feed('f'), i);
        }
        due("full", x.feed('f'), FULL);
        due("BAD is named first", x.feed(-1), BAD);
        due("count", x.count(2), 120);
        due("fault at 0", x.law(), -100);
        due("empty then", x.count(2), 0);
        due("feed again", x.feed('f'), 1);
    }

    private static int kept(String text) {
        HayRemembers x = rickOf(100, 835, 100, 100);
        x.mend(1, 3, 47);
        x.mend(0, 4, 6);
        return tell(x, text) == 1 ? x.keeps(1) : -99;
    }

    private static void law() {
        promise = 8;
        Object[][] laws = {
            {"f", 8}, {"a/10", 4}, {"l", 2}, {"m", 5}, {"c", 6}, {"k", 1}, {"a%10", 7}, {"9999", 9}, {"0007", 7},
            {"-f", 0}, {"--f", 8}, {"!f", 0}, {"!!f", 1}, {"f-a/10", 4}, {"f-1-1", 6}, {"f/2/2", 2}, {"8/(4/2)", 4},
            {"2+3*2", 8}, {"(2+1)*2", 6}, {"f/0", 0}, {"f%0", 0}, {"7%3*2", 2}, {"-7/2+9", 6}, {"-7%2+9", 8},
            {"1<2", 1}, {"2<1", 0}, {"2<2", 0}, {"2=2", 1}, {"2=1", 0}, {"2>1", 1}, {"2>2", 0}, {"1>2", 0},
            {"2&4", 1}, {"2&0", 0}, {"0|4", 1}, {"0|0", 0}, {"1|0&0", 1}, {"0&0|1", 1}, {"(1<2)+3", 4},
            {"1+1<2+1", 1}, {"1<2&2<1", 0}, {"f=8?3;9", 3}, {"f=7?3;9", 9}, {"f=7?3", 0}, {"5;6", 5},
            {"0?1;0?2;1?3;4", 3}, {"0?1;k?2", 2}, {"-1?6", 6}, {"!f=0", 1}, {"-1+3", 2}, {"f--1", 9}, {"!0+1", 2},
            {"((((((5))))))", 5}, {"!!!!!!7", 1}, {"------7", 7}, {"(-!(f))*0+3", 3}, {"(1)+(2)", 3},
            {"9999*9999*9999*9999>0", wrapped() > 0 ? 1 : 0}, {"a?m|l?1;2", -99}, {"a?m|l;2", 1}};
        for (Object[] l : laws) {
            due("keeps() by " + l[0], kept((String) l[0]), (Integer) l[1]);
        }
        HayRemembers x = rickOf(900);
        due("a law", tell(x, "3"), 1);
        due("a fault", tell(x, "3+"), -102);
        due("the tape is empty", x.count(2), 0);
        due("the law stays", x.keeps(0), 3);
        due("an empty tape", x.law(), -100);
        due("a longest one", tell(x, "1+1+".repeat(29) + "1+02"), 1);
        due("keeps", x.keeps(0), 9);
        due("60 lines", tell(x, "0?7;".repeat(29) + "0;1;"), -220);
        due("30 lines", tell(x, "0?7;".repeat(29) + "4;11"), 1);
        due("keeps", x.keeps(0), 4);
    }

    private static int wrapped() {
        int v = 9999;
        return v * 9999 * 9999 * 9999;
    }

    private static void lawFaults() {
        promise = 8;
        Object[][] faults = {
            {"", 0}, {"f;", 2}, {";f", 0}, {"?f", 0}, {"f?", 2}, {"f?1?2", 3}, {"(f?1)", 2}, {"(f;1)", 2},
            {"12345", 4}, {"1f", 1}, {"ff", 1}, {"f1", 1}, {"x", 0}, {"F", 0}, {" f", 0}, {"f ", 1}, {"f+", 2},
            {"f+*", 2}, {"+f", 0}, {"1<2<3", 3}, {"1<2=3", 3}, {"1=2>3", 3}, {"(1<2)<3", -1}, {"(1", 2}, {"()", 1},
            {"(1))", 3}, {"1)", 1}, {"(((((((1", 6}, {"!!!!!!!1", 6}, {"-------1", 6}, {"!-(!-((1", 6},
            {"(1)(1)", 3}, {"!", 1}, {"f-------1", -1}, {"f--------1", 8}, {"((((((1))))))+((((((1))))))", -1}, {"((((((1)))))+(1))", -1},
            {"((((((1)))))+(((((1))))))", -1}, {"((((((1)))))+((((((1)))))))", 18}, {"1&&1", 2}, {"1||1", 2}, {"1==1", 2}, {"f\0", 1},
            {"f\u00e6", 1}, {"\u00ff", 0}, {"f?(1", 4}, {"0?1;2;;", 6}, {"0?1;2;3?", 8}, {"(12345)", 5}};
        for (Object[] f : faults) {
            HayRemembers x = new HayRemembers();
            int fault = (Integer) f[1];
            due("law() of " + f[0], tell(x, (String) f[0]), fault < 0 ? 1 : -100 - fault);
        }
    }

    private static void keeps() {
        promise = 9;
        HayRemembers x = rickOf(500, 900);
        due("a new one", x.keeps(0), 5);
        x.mend(0, 3, 9);
        due("age 9", x.keeps(0), 5);
        x.mend(0, 3, 10);
        due("age 10", x.keeps(0), 4);
        x.mend(0, 3, 99);
        due("not below 0", x.keeps(0), 0);
        due("no layer", x.keeps(2), BAD);
        due("no rick", x.keeps(16), BAD);
        due("below 0", x.keeps(-1), BAD);
        due("least int", x.keeps(Integer.MIN_VALUE), BAD);
        due("greatest int", x.keeps(Integer.MAX_VALUE), BAD);
        tell(x, "l*5+k*3");
        due("on it", x.keeps(0), 5);
        due("its number", x.keeps(1), 3);
        tell(x, "1-f");
        due("held at 0", x.keeps(1), 0);
        tell(x, "f+f");
        due("held at 9", x.keeps(1), 9);
    }

    private static void lean() {
        promise = 10;
        int[] right = {0, 1, 1, 1, 0, -1, -1, -1};
        int[] down = {-1, -1, 0, 1, 1, 1, 0, -1};
        for (int way = 0; way <= 7; way++) {
            HayRemembers x = rickOf(600 + 10 * way);
            due("X of " + way, x.lean(0, 0), 6 * right[way]);
            due("Y of " + way, x.lean(0, 1), 6 * down[way]);
        }
        HayRemembers x = rickOf(920, 910, 240);
        due("X", x.lean(0, 0), 18);
        due("Y", x.lean(0, 1), -7);
        due("stands", x.lean(0, 2), 1);
        x.mend(0, 5, 18);
        due("stands by 18", x.lean(0, 2), 1);
        x.mend(0, 5, 17);
        due("falls by 17", x.lean(0, 2), 0);
        x.mend(0, 0, 6);
        x.mend(1, 0, 7);
        due("against it", x.lean(0, 0), -18);
        due("falls against it", x.lean(0, 2), 0);
        x.mend(0, 0, 0);
        due("Y falls alone", x.lean(0, 1), -16);
        x.mend(0, 5, 15);
        due("falls by Y", x.lean(0, 2), 0);
        due("no rick", x.lean(1, 0), VOID);
        due("what 3", x.lean(0, 3), VOID);
        due("what -1", x.lean(0, -1), VOID);
        due("rick below 0", x.lean(-1, 0), VOID);
    }

    private static void winter() {
        promise = 11;
        HayRemembers x = yard(2);
        x.lay(0, 921);
        x.lay(0, 922);
        x.lay(0, 463);
        x.lay(1, 840);
        x.mend(0, 5, 9);
        x.mend(2, 7, 9);
        // a layer that is not there is left out and counts for none
        shelve(x, 0, 0, 3, 2, 16, 5, 1, 0);
        due("how many", x.winter(0, 24, 0), 4);
        due("how many of 3", x.winter(0, 3, 0), 2);
        due("how many of 0", x.winter(0, 0, 0), 0);
        due("FORCE", x.winter(0, 24, 1), 4 + 8 + 9 + 9);
        due("FORCE of 2", x.winter(0, 2, 1), 4);
        due("the first door, by its place", x.winter(0, 24, 2), 4);
        due("no door", x.winter(0, 4, 2), NOT);
        due("the first fall, by its place", x.winter(0, 24, 3), 1);
        due("no fall", x.winter(0, 1, 3), NOT);
        due("MARKS", x.winter(0, 24, 4), 2 + 4 + 8);
        due("MARKS of 3", x.winter(0, 3, 4), 8);
        x.mend(4, 7, 8);
        due("a door that is as much", x.winter(0, 24, 2), 2);
        due("nothing is cut in deed", x.count(1), 4);
        x.mend(0, 5, 99);
        due("it stands by 99", x.winter(0, 24, 3), NOT);
        due("no shelf", x.winter(6, 0, 0), BAD);
        due("shelf below 0", x.winter(-1, 0, 0), BAD);
        due("n 25", x.winter(0, 25, 0), BAD);
        due("n -1", x.winter(0, -1, 0), BAD);
        due("what 5", x.winter(0, 0, 5), BAD);
        due("what -1", x.winter(0, 0, -1), BAD);
        due("BAD ahead of -11", x.winter(5, 25, 0), BAD);
        due("nothing there", x.winter(5, 0, 0), -11);
        x.row(1, 1, 3);
        due("shorts", x.winter(1, 0, 0), -12);
        x.body(0);
        x.keep(2, 0);
        due("a body", x.winter(2, 0, 0), -12);
    }

    private static void winterEnds() {
        promise = 11;
        HayRemembers x = rickOf(100, 110, 120, 130, 140, 150);
        shelve(x, 0, 0, 0, 16, 0);
        due("ends with no rick", x.winter(0, 24, 0), 1);
        shelve(x, 0, 0, 0, 12, 0);
        due("ends with 12", x.winter(0, 24, 0), 1);
        shelve(x, 0, 0, 0, 15, 0);
        due("ends with 15", x.winter(0, 24, 0), 1);
        shelve(x, 0, 0, 0, 11, 0);
        due("11 is left out", x.winter(0, 24, 0), 2);
        shelve(x, 0, 0, 0, -1, 0);
        due("ends below 0", x.winter(0, 24, 0), 1);
        shelve(x, 0, 0, 5, 5, 5, 4, 4, 0, 0, 0, 0, 0);
        due("numbers as they are then", x.winter(0, 24, 0), 6);
        shelve(x, 0, 0, 3, 3, 3, 3);
        due("above it, they come down", x.winter(0, 24, 0), 3);
        x.row(0, 0, 60);
        for (int i = 0; i < 24; i++) {
            x.put(0, i, 11);
        }
        due("24 at most", x.winter(0, 24, 0), 0);
        HayRemembers none = new HayRemembers();
        none.row(0, 0, 3);
        due("no ricks", none.winter(0, 24, 0), 0);
    }

    private static void leanThen() {
        promise = 12;
        HayRemembers x = yard(2);
        x.lay(0, 520);
        x.lay(0, 340);
        x.lay(1, 710);
        shelve(x, 0, 0, 1, 16, 0);
        due("X by 0", x.leanThen(0, 0, 0, 0), 5);
        due("Y by 0", x.leanThen(0, 0, 0, 1), 3);
        due("Y by 1", x.leanThen(0, 1, 0, 1), 0);
        due("X of the other", x.leanThen(0, 1, 1, 0), 7);
        due("X of the other by 2", x.leanThen(0, 2, 1, 0), 0);
        due("X by 24", x.leanThen(0, 24, 0, 0), 0);
        tell(x, "f+l");
        due("by what lies then", x.leanThen(0, 0, 0, 0), 6);
        due("by what lies then", x.leanThen(0, 1, 0, 0), 5);
        due("no rick", x.leanThen(0, 1, 2, 0), VOID);
        due("what 2", x.leanThen(0, 1, 0, 2), VOID);
        due("what -1", x.leanThen(0, 1, 0, -1), VOID);
        due("n 25", x.leanThen(0, 25, 0, 0), VOID);
        due("n -1", x.leanThen(0, -1, 0, 0), VOID);
        due("no shelf", x.leanThen(6, 0, 0, 0), VOID);
        due("nothing there", x.leanThen(1, 0, 0, 0), VOID);
        x.row(1, 2, 4);
        due("ints", x.leanThen(1, 0, 0, 0), VOID);
    }

    private static void order() {
        promise = 13;
        HayRemembers x = rickOf(920, 920);
        shelve(x, 0, 1, 340, 360, 120);
        // X 18 ahead of them: 15, 15, 16 is least; 15, 16, 16 is like it, but 1, 2, 0 comes behind 1, 0, 2
        due("least", x.order(0, 0, -1), 16);
        due("first", x.order(0, 0, 0), 1);
        due("second", x.order(0, 0, 1), 0);
        due("third", x.order(0, 0, 2), 2);
        due("no fourth", x.order(0, 0, 3), NOT);
        due("k -2", x.order(0, 0, -2), BAD);
        shelve(x, 0, 1, 960, 220, 560);
        x.mend(0, 5, 18);
        // 9, 4, 6
        due("the rick's own lean does not count", x.order(0, 0, -1), 9);
        due("first", x.order(0, 0, 0), 0);
        due("second", x.order(0, 0, 1), 2);
        due("third", x.order(0, 0, 2), 1);
        x.mend(0, 5, 5);
        due("none stands throughout", x.order(0, 0, -1), NOT);
        due("none stands throughout", x.order(0, 0, 0), NOT);
        shelve(x, 1, 1);
        due("no hours", x.order(1, 0, -1), 0);
        due("no hours, no first", x.order(1, 0, 0), NOT);
        shelve(x, 1, 1, 0, 500);
        due("it ends with 0", x.order(1, 0, -1), 0);
        shelve(x, 1, 1, 100, 110, 120, 130, 140, 150, 160, 170);
        due("8 hours", x.order(1, 0, -1), STATE);
        x.put(1, 7, 99);
        x.mend(0, 5, 99);
        due("7 hours", x.order(1, 0, 6) >= 0 ? 1 : 0, 1);
        x.put(1, 7, 180);
        for (int i = 0; i < 4; i++) {
            x.lay(0, 100);
        }
        due("no room for 7", x.order(1, 0, -1), NOT);
        x.put(1, 7, 107);
        due("STATE ahead of NOT", x.order(1, 0, -1), STATE);
        x.put(1, 6, -500);
        due("room for 6", x.order(1, 0, -1) > 0 ? 1 : 0, 1);
        due("no shelf", x.order(6, 0, -1), BAD);
        due("no rick", x.order(0, 1, -1), BAD);
        due("nothing there", x.order(5, 0, -1), -11);
        x.row(5, 0, 3);
        due("bytes", x.order(5, 0, -1), -12);
        due("BAD ahead of -12", x.order(5, 0, -2), BAD);
        HayRemembers y = rickOf(100);
        tell(y, "f-l*3+k");
        shelve(y, 0, 1, 920, 260);
        // 920 laid first keeps 10 - 3 below the other; 260 first keeps 0 below 920, which keeps 9
        due("by what lies on it", y.order(0, 0, -1), 9);
        due("its first", y.order(0, 0, 0), 0);
    }

    private static void letOut() {
        promise = 14;
        HayRemembers x = rickOf(921, 962, 923, 960);
        x.mend(0, 5, 9);
        due("the first", x.letOut(0, 1, -1), 1);
        due("it", x.letOut(0, 1, 0), 0);
        due("no second", x.letOut(0, 1, 1), NOT);
        x.mend(1, 2, 1);
        due("of like ones the first", x.letOut(0, 1, 0), 0);
        x.mend(0, 5, 8);
        due("it never stands by one", x.letOut(0, 1, -1), NOT);
        due("not there", x.letOut(0, 7, -1), NOT);
        HayRemembers y = rickOf(925, 960, 960);
        y.mend(0, 5, 9);
        // cutting layer 0 first leaves -18; cutting 1 or 2 first leaves 0, then -9
        due("two", y.letOut(0, 5, -1), 2);
        due("first cut", y.letOut(0, 5, 0), 1);
        due("second cut, by its number now", y.letOut(0, 5, 1), 0);
        due("far k", y.letOut(0, 5, 99), NOT);
        y.mend(0, 3, 99);
        y.mend(0, 5, 18);
        due("what keeps nothing lets its mark out", y.letOut(0, 5, -1), 1);
        due("no rick", y.letOut(1, 5, -1), BAD);
        due("mark 0", y.letOut(0, 0, -1), BAD);
        due("mark 8", y.letOut(0, 8, -1), BAD);
        due("k -2", y.letOut(0, 5, -2), BAD);
        y.rick();
        due("no layers", y.letOut(1, 5, -1), NOT);
    }

    private static void worth() {
        promise = 15;
        HayRemembers x = rickOf(500, 700, 600);
        due("0", x.worth(0, 0, -1), 0);
        due("1", x.worth(0, 1, -1), 7);
        due("its first", x.worth(0, 1, 0), 1);
        due("3", x.worth(0, 3, -1), 18);
        due("of like ones the first", x.worth(0, 3, 0), 0);
        due("then", x.worth(0, 3, 1), 1);
        due("then", x.worth(0, 3, 2), 2);
        due("it hasn't 4", x.worth(0, 4, -1), NOT);
        x.mend(2, 3, 9);
        due("the one that ages is sold first", x.worth(0, 3, 0), 2);
        due("all is paid", x.worth(0, 3, -1), 18);
        tell(x, "f-l*2+a");
        // from the top: 6 + 9, then 7 + 1, then 5 + 2, held at 9
        due("by what lies then", x.worth(0, 3, -1), 9 + 8 + 7);
        due("from the top", x.worth(0, 3, 0), 2);
        due("t 5", x.worth(0, 5, -1), BAD);
        due("t -1", x.worth(0, -1, -1), BAD);
        due("k t", x.worth(0, 3, 3), BAD);
        due("k -2", x.worth(0, 3, -2), BAD);
        due("no rick", x.worth(1, 0, -1), BAD);
        due("BAD ahead of NOT", x.worth(0, 4, 4), BAD);
        HayRemembers y = rickOf(100, 100);
        y.mend(0, 3, 99);
        y.mend(1, 3, 98);
        tell(y, "a-91");
        due("AGE is 99 at most", y.worth(0, 2, -1), 8 + 8);
        due("AGE is 99 at most", y.worth(0, 2, 0), 0);
    }

    private static void likely() {
        promise = 16;
        HayRemembers x = rickOf(101, 101, 102, 100, 100, 100);
        due("1 of 6", x.likely(2, 1, 0), 1);
        due("by 6", x.likely(2, 1, 1), 6);
        due("2 of 6 by 1", x.likely(1, 1, 0), 1);
        due("by 3", x.likely(1, 1, 1), 3);
        due("by 2 cuts: 1 - 6 / 15", x.likely(1, 2, 0), 3);
        due("by 5", x.likely(1, 2, 1), 5);
        due("by 5 cuts", x.likely(1, 5, 0), 1);
        due("by 1", x.likely(1, 5, 1), 1);
        due("by 12 cuts", x.likely(2, 12, 0), 1);
        due("by no cut", x.likely(2, 0, 0), 0);
        due("by 1", x.likely(2, 0, 1), 1);
        due("of none", x.likely(7, 3, 0), 0);
        due("by 1", x.likely(7, 3, 1), 1);
        due("mark 0", x.likely(0, 1, 0), NO_LONG);
        due("mark 8", x.likely(8, 1, 0), NO_LONG);
        due("no rick", x.likely(11, 1, 0), NO_LONG);
        due("rm below 0", x.likely(-1, 1, 0), NO_LONG);
        due("t 13", x.likely(1, 13, 0), NO_LONG);
        due("t -1", x.likely(1, -1, 0), NO_LONG);
        due("part 2", x.likely(1, 1, 2), NO_LONG);
        due("part -1", x.likely(1, 1, -1), NO_LONG);
    }

    private static void mean() {
        promise = 17;
        HayRemembers x = rickOf(500, 300, 200);
        due("10 by 3", x.mean(0, 0), 10);
        due("10 by 3", x.mean(0, 1), 3);
        x.lay(0, 200);
        due("3 by 1", x.mean(0, 0), 3);
        due("3 by 1", x.mean(0, 1), 1);
        x.mend(0, 3, 20);
        due("10 by 4", x.mean(0, 0), 5);
        due("10 by 4", x.mean(0, 1), 2);
        tell(x, "0");
        due("0 by 1", x.mean(0, 0), 0);
        due("0 by 1", x.mean(0, 1), 1);
        due("no rick", x.mean(1, 0), NO_LONG);
        due("part 2", x.mean(0, 2), NO_LONG);
        due("part -1", x.mean(0, -1), NO_LONG);
        x.rick();
        due("none: 0", x.mean(1, 0), 0);
        due("by 1", x.mean(1, 1), 1);
    }

    private static void judge() {
        promise = 18;
        HayRemembers x = rickOf(100, 130, 170);
        shelve(x, 0, 0, 7, 3, 0);
        due("all so", x.judge(0, 0), NOT);
        x.put(0, 1, 0);
        due("the second is not so", x.judge(0, 0), 1);
        x.put(0, 0, 9);
        due("no way", x.judge(0, 0), 0);
        shelve(x, 0, 0, 7, 3);
        due("fewer", x.judge(0, 0), NOT);
        shelve(x, 0, 0, 7, 3, 0, 0);
        due("more than there are", x.judge(0, 0), 3);
        shelve(x, 0, 0);
        due("an empty row", x.judge(0, 0), NOT);
        due("no shelf", x.judge(6, 0), BAD);
        due("no rick", x.judge(0, 1), BAD);
        due("nothing there", x.judge(1, 0), -11);
        due("BAD ahead of -11", x.judge(1, 1), BAD);
        x.row(1, 4, 2);
        due("booleans", x.judge(1, 0), -12);
        x.body(0);
        x.keep(1, 0);
        due("a body", x.judge(1, 0), -12);
    }

    private static void top() {
        promise = 19;
        HayRemembers x = rickOf(920, 960, 820, 520);
        x.mend(0, 5, 11);
        // below its top: X 8
        due("FORCES", x.top(0, 0), 3);
        due("the greatest", x.top(0, 1), 3);
        // 5: right falls (13), up and right, too; up, down and the left stand
        due("WAYS", x.top(0, 2), 1 + 16 + 32 + 64 + 128);
        x.mend(0, 5, 3);
        due("no FORCE", x.top(0, 0), 0);
        due("no greatest", x.top(0, 1), NOT);
        // 8 - 5 and Y 5 at the corners: the left alone
        due("WAYS", x.top(0, 2), 64);
        x.mend(3, 0, 6);
        due("5 .. 9", x.top(0, 0), 5);
        due("the greatest is 9", x.top(0, 1), 9);
        tell(x, "f>6?0;f");
        x.mend(0, 5, 9);
        // 18 - 9 = 9 without 8: X 9 - 9 = 0
        due("it is not more alone", x.lean(0, 0), -5);
        due("all", x.top(0, 0), 9);
        x.mend(3, 0, 2);
        x.mend(0, 5, 4);
        due("1 .. 4, 7 .. 9", x.top(0, 0), 7);
        due("the greatest of both", x.top(0, 1), 9);
        due("what 3", x.top(0, 3), BAD);
        due("what -1", x.top(0, -1), BAD);
        due("no rick", x.top(1, 0), BAD);
        x.rick();
        due("no layers", x.top(1, 0), 0);
        due("no layers", x.top(1, 1), NOT);
        due("no layers", x.top(1, 2), 0);
    }

    private static void hours() {
        promise = 20;
        HayRemembers x = rickOf(400, 900);
        due("99 by 5", x.hours(0, 99), 19);
        due("99 by 10", x.hours(1, 99), 9);
        due("0", x.hours(1, 0), 0);
        x.mend(0, 3, 99);
        due("keeps nothing", x.hours(0, 99), 99);
        due("n 100", x.hours(0, 100), BAD);
        due("n -1", x.hours(0, -1), BAD);
        due("no layer", x.hours(2, 1), BAD);
        due("below 0", x.hours(-1, 1), BAD);
    }

    private static void youngest() {
        promise = 21;
        HayRemembers x = rickOf(400, 900, 900);
        due("of like ones the lowest", x.youngest(0, 99), 1);
        due("by few hours", x.youngest(0, 3), 0);
        due("n 100", x.youngest(0, 100), BAD);
        due("n -1", x.youngest(0, -1), BAD);
        due("no rick", x.youngest(1, 1), BAD);
        x.rick();
        due("no layers", x.youngest(1, 1), NOT);
    }

    private static void byTurns() {
        promise = 22;
        HayRemembers x = rickOf(520);
        due("the builder evens it", x.byTurns(0, 1, 0), 0);
        due("by the left", x.byTurns(0, 1, 1), 6);
        due("the wind is last", x.byTurns(0, 2, 0), 5);
        due("the builder's first", x.byTurns(0, 2, 1), 6);
        due("n 0", x.byTurns(0, 0, 0), BAD);
        due("n 5", x.byTurns(0, 5, 0), BAD);
        due("what 2", x.byTurns(0, 1, 2), BAD);
        due("what -1", x.byTurns(0, 1, -1), BAD);
        due("no rick", x.byTurns(1, 1, 0), BAD);
        tell(x, "l?0;f");
        // what lies under another keeps nothing: only the last counts
        due("only the last", x.byTurns(0, 4, 0), 5);
        due("any first", x.byTurns(0, 4, 1), 0);
        for (int i = 1; i < 12; i++) {
            due("NOT, if 4 have no room", x.byTurns(0, 4, 0) == NOT ? 1 : 0, i + 4 > 12 ? 1 : 0);
            x.lay(0, 100);
        }
        due("no room", x.byTurns(0, 1, 0), NOT);
        due("BAD ahead of NOT", x.byTurns(0, 0, 0), BAD);
    }

    private static void drawn() {
        promise = 23;
        HayRemembers x = yard(2);
        x.lay(0, 920);
        x.lay(0, 320);
        x.lay(1, 140);
        x.mend(0, 5, 8);
        int seed = 12345;
        int z = seed * 1103515245 + 12345;
        int rick = (z >>> 8) % 2;
        int layer = (z >>> 16) % (rick == 0 ? 2 : 1);
        int blows = rick == 1 ? 1 : layer == 0 ? 9 : 3;
        due("one cut", x.drawn(seed, 101, -1), blows);
        due("where rick 0 stands", x.drawn(seed, 101, 0), blows == 9 ? 1 : 0);
        due("rick 1 stands always", x.drawn(seed, 3012, 1), 30);
        due("nothing is cut in deed", x.count(1), 3);
        due("n 0", x.drawn(1, 12, -1), BAD);
        due("n 31", x.drawn(1, 3101, -1), BAD);
        due("m 0", x.drawn(1, 3000, -1), BAD);
        due("m 13", x.drawn(1, 113, -1), BAD);
        due("nm below 0", x.drawn(1, -101, -1), BAD);
        due("no rick", x.drawn(1, 101, 2), BAD);
        due("rick -2", x.drawn(1, 101, -2), BAD);
        HayRemembers y = rickOf(500);
        // one rick of one layer: each winter's first cut takes it, the second is left out
        due("left out", y.drawn(-7, 1002, -1), 50);
        due("least seed", y.drawn(Integer.MIN_VALUE, 101, -1), 5);
        HayRemembers none = new HayRemembers();
        due("no ricks", none.drawn(1, 101, -1), 0);
        due("no ricks", none.drawn(1, 101, 0), BAD);
    }

    private static void cut() {
        promise = 24;
        HayRemembers x = rickOf(521, 732, 943);
        tell(x, "f-l");
        due("as it lay", x.cut(0), 3);
        due("those above come down", x.of(0, 1), 7);
        due("those above come down", x.of(1, 1), 9);
        due("two lie", x.of(0, 8), 2);
        due("no third", x.cut(2), BAD);
        due("below 0", x.cut(-1), BAD);
        due("no rick", x.cut(16), BAD);
        due("the top", x.cut(1), 9);
        due("the last", x.cut(0), 7);
        due("none", x.cut(0), BAD);
        due("LED", x.led(1), 3);
        due("LED FORCE", x.led(2), 19);
        due("a door of 9", x.led(3), 1);
    }

    private static void day() {
        promise = 25;
        HayRemembers x = rickOf(500, 600);
        x.rick();
        x.lay(1, 700);
        x.mend(0, 3, 98);
        due("day 1", x.day(), 1);
        due("AGE 99", x.of(0, 3), 99);
        due("AGE 1", x.of(16, 3), 1);
        due("day 2", x.day(), 2);
        due("99 at most", x.of(0, 3), 99);
        due("AGE 2", x.of(1, 3), 2);
        x.mend(0, 6, 98);
        due("day 99", x.day(), 99);
        due("99 stays", x.day(), 99);
        due("LED", x.led(4), 4);
        x.lay(1, 100);
        due("a new one has AGE 0", x.of(17, 3), 0);
    }

    private static void led() {
        promise = 26;
        HayRemembers x = rickOf(500, 800, 340);
        x.mend(0, 7, 8);
        x.cut(0);
        due("5 is less than 8", x.led(3), 0);
        x.cut(0);
        due("8 is as much", x.led(3), 1);
        due("the door is put on again", x.of(0, 7), 8);
        x.cut(0);
        due("another door", x.led(3), 1);
        x.day();
        due("LAID", x.led(0), 3);
        due("CUT", x.led(1), 3);
        due("FORCE", x.led(2), 16);
        due("days", x.led(4), 1);
        due("what 5", x.led(5), BAD);
        due("what -1", x.led(-1), BAD);
    }

    private static void image() {
        promise = 27;
        HayRemembers x = rickOf(500);
        due("DAY", x.image(), 0);
        x.day();
        due("DAY 1", x.image(), 1);
        x.day();
        x.cut(0);
        due("the latest is laid back", x.back(), 1);
        due("AGE", x.of(0, 3), 1);
        due("days", x.led(4), 1);
        x.cut(0);
        due("once more", x.back(), 1);
        due("it lies", x.of(0, 8), 1);
    }

    private static void back() {
        promise = 28;
        HayRemembers x = rickOf(527, 634);
        due("there is none", x.back(), STATE);
        x.mend(1, 3, 30);
        x.image();
        x.mend(1, 1, 9);
        x.mend(0, 4, 5);
        x.mend(0, 5, 30);
        x.mend(3, 7, 2);
        x.mend(0, 6, 70);
        x.lay(0, 100);
        x.rick();
        x.lay(1, 999 - 22);
        x.cut(0);
        x.day();
        due("back()", x.back(), 0);
        due("DAY", x.of(0, 6), 0);
        due("rick 0", x.of(0, 8), 2);
        due("rick 1 is empty", x.of(1, 8), 0);
        due("it is there", x.count(0), 2);
        due("numbers as they were", x.of(1, 1), 6);
        due("numbers as they were", x.of(1, 3), 30);
        due("LED LAID", x.led(0), 2);
        due("LED CUT", x.led(1), 0);
        due("LED days", x.led(4), 0);
        due("COLD is not of it", x.of(0, 4), 5);
        due("STAND is not of it", x.of(0, 5), 30);
        due("DOOR is not of it", x.of(3, 7), 2);
        due("CHANGES are as they are", x.count(3), 6);
    }

    private static void undo() {
        promise = 29;
        HayRemembers x = rickOf(500);
        due("none", x.undo(), STATE);
        x.mend(0, 1, 6);
        x.mend(0, 4, 3);
        x.mend(0, 5, 4);
        x.mend(0, 6, 5);
        x.mend(2, 7, 6);
        due("DOOR", x.undo(), 4);
        due("DOOR is", x.of(2, 7), 9);
        due("DAY", x.undo(), 3);
        due("DAY is", x.of(0, 6), 0);
        due("STAND", x.undo(), 2);
        due("STAND is", x.of(0, 5), 20);
        due("COLD", x.undo(), 1);
        due("COLD is", x.of(0, 4), 0);
        due("FORCE", x.undo(), 0);
        due("FORCE is", x.of(0, 1), 5);
        due("none", x.undo(), STATE);
        for (int i = 0; i < 45; i++) {
            x.mend(0, 3, i % 2 + 1);
        }
        due("40 are kept", x.count(3), 40);
        for (int i = 39; i >= 0; i--) {
            due("undo", x.undo(), i);
        }
        due("none", x.undo(), STATE);
        // the 41st from the end told 1: what it was stays
        due("what it was", x.of(0, 3), 1);
        x.day();
        due("deeds are none", x.undo(), STATE);
    }

    private static void undoOfLayers() {
        promise = 29;
        HayRemembers x = rickOf(500, 600, 700);
        x.mend(2, 1, 9);
        x.mend(1, 3, 40);
        x.mend(0, 2, 7);
        x.cut(0);
        due("of one that is cut", x.undo(), 2);
        due("nothing is seen", x.of(0, 2) + x.of(1, 2), 0);
        x.day();
        due("of one that lies lower", x.undo(), 1);
        due("AGE is", x.of(0, 3), 0);
        due("lower, too", x.undo(), 0);
        due("FORCE is", x.of(1, 1), 7);
        due("again", x.redo(), 2);
        due("FORCE is", x.of(1, 1), 9);
        x.image();
        x.back();
        due("of one ahead of an image", x.undo(), 0);
        due("nothing is seen", x.of(1, 1), 9);
        due("again", x.redo(), 2);
        due("again", x.redo(), 1);
        due("nothing is seen", x.of(0, 3), 0);
    }

    private static void redo() {
        promise = 30;
        HayRemembers x = rickOf(500);
        due("none", x.redo(), STATE);
        x.mend(0, 1, 6);
        x.mend(0, 1, 7);
        x.mend(0, 1, 8);
        due("none", x.redo(), STATE);
        x.undo();
        x.undo();
        due("FORCE is", x.of(0, 1), 6);
        due("again", x.redo(), 1);
        due("FORCE is", x.of(0, 1), 7);
        due("the same number is none", x.mend(0, 1, 7), 7);
        x.mend(0, 1, 10);
        x.day();
        due("again", x.redo(), 0);
        due("FORCE is", x.of(0, 1), 8);
        x.undo();
        x.mend(0, 4, 1);
        due("another came behind", x.redo(), STATE);
        due("3 may be undone", x.count(3), 3);
    }

    private static void body() {
        promise = 31;
        HayRemembers x = new HayRemembers();
        due("kind 8", x.body(8), BAD);
        due("kind -1", x.body(-1), BAD);
        for (int i = 0; i < 50; i++) {
            due("body", x.body(i % 8), i);
        }
        due("full", x.body(0), FULL);
        due("BAD is named first", x.body(8), BAD);
        due("count", x.count(4), 50);
    }

    private static void act() {
        promise = 32;
        HayRemembers x = new HayRemembers();
        for (int i = 0; i < 16; i++) {
            x.body(i / 2);
        }
        int[] numbers = {0, 1, -1, 5, 77, Integer.MAX_VALUE, Integer.MIN_VALUE, 1431655765};
        for (int i = 0; i < 16; i++) {
            for (int act = 0; act <= 3; act++) {
                int v = numbers[(i + act) % numbers.length];
                Kinds.Builder model = Kinds.make(i / 2, i);
                due("act(" + i + ", " + act + ", " + v + ")", x.act(i, act, v), model.perform(act, v));
                due("how many ran", x.count(5), model.ran.size());
                due("the last that ran", x.trace(model.ran.size() - 1), model.ran.get(model.ran.size() - 1));
            }
        }
        due("no body", x.act(16, 0, 1), 0);
        due("no trace", x.count(5), 0);
        x.act(0, 0, 1);
        due("no act", x.act(0, 4, 1), 0);
        due("no trace", x.trace(0), BAD);
        due("act -1", x.act(0, -1, 1), 0);
        due("body -1", x.act(-1, 0, 1), 0);
    }

    private static void trace() {
        promise = 33;
        HayRemembers x = new HayRemembers();
        for (int kind = 0; kind < 8; kind++) {
            x.body(kind);
        }
        x.act(5, 3, 1);
        int[] ran = {61, 2, 41, 30, 10, 1, 60, 40, 11, 1};
        for (int i = 0; i < ran.length; i++) {
            due("trace(" + i + ")", x.trace(i), ran[i]);
        }
        due("no more", x.trace(ran.length), BAD);
        due("below 0", x.trace(-1), BAD);
        due("far", x.trace(Integer.MAX_VALUE), BAD);
        x.act(7, 1, 1);
        int[] then = {80, 10, 81, 70, 1, 11};
        for (int i = 0; i < then.length; i++) {
            due("trace(" + i + ")", x.trace(i), then[i]);
        }
        due("no more", x.trace(then.length), BAD);
    }

    private static void keep() {
        promise = 34;
        HayRemembers x = new HayRemembers();
        x.body(3);
        due("no body 1", x.keep(0, 1), BAD);
        due("body -2", x.keep(0, -2), BAD);
        due("no shelf", x.keep(6, 0), BAD);
        due("shelf -1", x.keep(-1, 0), BAD);
        due("a body", x.keep(5, 0), 1);
        due("its kind", x.taken(5, 3), 3);
        due("nothing", x.keep(5, -1), 1);
        due("nothing is there", x.taken(5, 3), -11);
        x.row(5, 0, 3);
        due("ahead of a row", x.keep(5, 0), 1);
        due("no row", x.put(5, 0, 1), -12);
    }

    private static void row() {
        promise = 35;
        HayRemembers x = new HayRemembers();
        due("sort 5", x.row(0, 5, 1), BAD);
        due("sort -1", x.row(0, -1, 1), BAD);
        due("n 61", x.row(0, 0, 61), BAD);
        due("no shelf", x.row(6, 0, 1), BAD);
        due("shelf -1", x.row(-1, 0, 1), BAD);
        due("n -1", x.row(0, 0, -1), -14);
        due("BAD ahead of -14", x.row(0, 5, -1), BAD);
        due("nothing there yet", x.element(0, 0), NO_LONG);
        due("it is nothing", x.put(0, 0, 1), -11);
        due("n 60", x.row(0, 3, 60), 1);
        due("0 at first", x.element(0, 59), 0);
        x.put(0, 59, 7);
        due("n -1 changes nothing", x.row(0, 3, -1), -14);
        due("it is there still", x.element(0, 59), 7);
        due("anew", x.row(0, 3, 60), 1);
        due("0 at first", x.element(0, 59), 0);
        due("n 0", x.row(0, 3, 0), 1);
        due("no place", x.put(0, 0, 1), -13);
    }

    private static void put() {
        promise = 36;
        HayRemembers x = new HayRemembers();
        due("no shelf", x.put(6, 0, 1), BAD);
        due("nothing", x.put(0, 0, 1), -11);
        x.body(0);
        x.keep(0, 0);
        due("a body", x.put(0, 0, 1), -12);
        long v = 0x0123456789abcdefL;
        long[] left = {(byte) v, (short) v, (int) v, v, 1};
        for (int sort = 0; sort <= 4; sort++) {
            x.row(1, sort, 3);
            due("put", x.put(1, 2, v), 1);
            due("its lowest bits", x.element(1, 2), left[sort]);
            due("another", x.element(1, 1), 0);
            x.put(1, 2, 0);
            due("0", x.element(1, 2), 0);
        }
        x.row(1, 4, 1);
        x.put(1, 0, 256);
        due("not 0 is true", x.element(1, 0), 1);
        due("no place", x.put(1, 1, 1), -13);
        due("place -1", x.put(1, -1, 1), -13);
    }

    private static void element() {
        promise = 37;
        HayRemembers x = new HayRemembers();
        due("no shelf", x.element(6, 0), NO_LONG);
        due("shelf -1", x.element(-1, 0), NO_LONG);
        due("nothing", x.element(0, 0), NO_LONG);
        x.body(0);
        x.keep(0, 0);
        due("a body", x.element(0, 0), NO_LONG);
        shelve(x, 1, 2, 5, -6);
        due("5", x.element(1, 0), 5);
        due("-6", x.element(1, 1), -6);
        due("no place", x.element(1, 2), NO_LONG);
        due("place -1", x.element(1, -1), NO_LONG);
        shelve(x, 2, 3, Long.MIN_VALUE + 1);
        due("a long", x.element(2, 0), Long.MIN_VALUE + 1);
    }

    private static void shift() {
        promise = 38;
        HayRemembers x = new HayRemembers();
        shelve(x, 0, 1, 1, 2, 3, 4, 5);
        due("up", x.shift(0, 0, 0, 2, 3), 3);
        dueRow(x, 0, 1, 2, 1, 2, 3);
        due("down", x.shift(0, 2, 0, 1, 3), 3);
        dueRow(x, 0, 1, 1, 2, 3, 3);
        shelve(x, 1, 1, 7, 8, 9);
        due("to another", x.shift(1, 0, 0, 3, 2), 2);
        dueRow(x, 0, 1, 1, 2, 7, 8);
        due("the same place", x.shift(0, 1, 0, 1, 4), 4);
        dueRow(x, 0, 1, 1, 2, 7, 8);
        due("none, at the end", x.shift(0, 5, 1, 3, 0), 0);
        due("behind the end", x.shift(0, 6, 1, 0, 0), -13);
        due("n below 0", x.shift(0, 0, 1, 0, -1), -13);
        due("too many", x.shift(0, 3, 1, 0, 3), -13);
        due("too many there", x.shift(0, 0, 1, 1, 3), -13);
        due("i below 0", x.shift(0, -1, 1, 0, 1), -13);
        due("j below 0", x.shift(0, 0, 1, -1, 1), -13);
        due("far", x.shift(0, Integer.MAX_VALUE, 1, 0, Integer.MAX_VALUE), -13);
        due("least", x.shift(0, Integer.MIN_VALUE, 1, 0, Integer.MIN_VALUE), -13);
        dueRow(x, 1, 7, 8, 9);
        due("nothing", x.shift(0, 0, 2, 0, 1), -11);
        due("nothing", x.shift(2, 0, 0, 0, 1), -11);
        x.row(2, 2, 5);
        due("unlike sorts", x.shift(0, 0, 2, 0, 1), -12);
        due("unlike sorts ahead of places", x.shift(0, 9, 2, 0, 1), -12);
        x.body(0);
        x.keep(3, 0);
        due("a body", x.shift(3, 0, 0, 0, 1), -12);
        due("to a body", x.shift(0, 0, 3, 0, 1), -12);
        due("-11 ahead of -12", x.shift(3, 0, 4, 0, 1), -11);
        due("no shelf", x.shift(6, 0, 0, 0, 1), BAD);
        due("no other", x.shift(4, 0, 6, 0, 1), BAD);
    }

    private static void dueRow(HayRemembers x, int shelf, long... values) {
        for (int i = 0; i < values.length; i++) {
            due("element " + i, x.element(shelf, i), values[i]);
        }
    }

    private static void taken() {
        promise = 39;
        int[][] above = {{0}, {1, 0}, {2, 0}, {3, 2, 0}, {4, 1, 0}, {5, 3, 2, 0}, {6, 0}, {7, 6, 0}};
        HayRemembers x = new HayRemembers();
        for (int kind = 0; kind < 8; kind++) {
            x.keep(0, x.body(kind));
            for (int k = 0; k < 8; k++) {
                int want = -12;
                for (int a : above[kind]) {
                    want = a == k ? kind : want;
                }
                due("a " + kind + " taken for a " + k, x.taken(0, k), want);
            }
        }
        due("k 8", x.taken(0, 8), BAD);
        due("k -1", x.taken(0, -1), BAD);
        due("no shelf", x.taken(6, 0), BAD);
        due("nothing", x.taken(1, 0), -11);
        due("BAD ahead of -11", x.taken(1, 8), BAD);
        x.row(1, 0, 1);
        due("a row", x.taken(1, 0), -12);
    }

    private static void count() {
        promise = 40;
        HayRemembers x = yard(3);
        x.lay(0, 100);
        x.lay(2, 100);
        x.lay(2, 100);
        x.feed('f');
        x.mend(0, 4, 1);
        x.mend(0, 4, 2);
        x.undo();
        x.body(0);
        x.body(1);
        x.act(1, 1, 1);
        due("RICKS", x.count(0), 3);
        due("LAYERS", x.count(1), 3);
        due("bytes", x.count(2), 1);
        due("changes", x.count(3), 1);
        due("BODIES", x.count(4), 2);
        due("bodies that ran", x.count(5), 3);
        due("what 6", x.count(6), BAD);
        due("what -1", x.count(-1), BAD);
        x.cut(32);
        due("LAYERS then", x.count(1), 2);
    }

    private static void constants() {
        promise = 0;
        due("BAD", HayRemembers.BAD, -1);
        due("NOT", HayRemembers.NOT, -2);
        due("FULL", HayRemembers.FULL, -3);
        due("STATE", HayRemembers.STATE, -5);
        due("VOID", HayRemembers.VOID, -2000000000);
    }

    // ---- the same promises where ricks, laws and shelves meet

    private static void otherRicks() {
        HayRemembers x = yard(4);
        for (int rick = 0; rick < 4; rick++) {
            for (int i = 0; i < 12; i++) {
                x.lay(rick, 100 * (1 + (rick + i) % 9) + 10 * ((rick + i) % 8) + i % 8);
            }
        }
        for (int rick = 0; rick < 4; rick++) {
            for (int i = 0; i < 12; i++) {
                int rl = 16 * rick + i;
                int force = 1 + (rick + i) % 9;
                promise = 9;
                due("keeps(" + rl + ")", x.keeps(rl), force);
                promise = 20;
                due("hours(" + rl + ", 99)", x.hours(rl, 99), 99 / (1 + force));
                promise = 6;
                due("of(" + rl + ", 0)", x.of(rl, 0), (rick + i) % 8);
            }
            for (int i = 12; i < 16; i++) {
                promise = 9;
                due("keeps() of no layer", x.keeps(16 * rick + i), BAD);
                promise = 20;
                due("hours() of no layer", x.hours(16 * rick + i, 9), BAD);
                promise = 24;
                due("cut() of no layer", x.cut(16 * rick + i), BAD);
            }
        }
        promise = 16;
        // of rick 3 marks 0 .. 3 lie twice, 4 .. 7 once
        due("likely(31)", x.likely(31, 1, 1), 6);
        due("likely(37)", x.likely(37, 1, 1), 12);
        due("likely(41)", x.likely(41, 1, 1), NO_LONG);
        promise = 11;
        shelve(x, 0, 0, 59, 58, 32, 16, 59);
        due("cuts of all ricks", x.winter(0, 24, 1), 6 + 5 + 3 + 2);
        due("how many", x.winter(0, 24, 0), 4);
        promise = 24;
        x.mend(17, 2, 0);
        x.mend(6, 7, 6);
        due("cut(59)", x.cut(59), 6);
        due("its door", x.led(3), 1);
        x.undo();
        due("cut(16)", x.cut(16), 2);
        for (int i = 0; i < 11; i++) {
            due("rick 0 lies as it was", x.of(i, 1), 1 + i % 9);
            due("rick 1 came down", x.of(16 + i, 1), 1 + (2 + i) % 9);
            due("rick 2 lies as it was", x.of(32 + i, 1), 1 + (2 + i) % 9);
            due("rick 3 lies as it was", x.of(48 + i, 1), 1 + (3 + i) % 9);
        }
        promise = 29;
        due("undo()", x.undo(), 0);
        due("its change came down, too", x.of(16, 2), 1);
    }

    private static void layersThatFit() {
        promise = 4;
        HayRemembers x = yard(1);
        shelve(x, 0, 0, 1, 2, 3, 4, 5, 6, 7, 8, 1);
        due("all nine bytes", x.layers(0, 0, 3), 3);
        due("its WAY", x.of(2, 0), 7);
        due("the last three", x.layers(0, 6, 3), 1);
        promise = 38;
        shelve(x, 1, 0, 1);
        x.body(0);
        x.keep(1, 0);
        due("a body where a row was", x.shift(0, 0, 1, 0, 1), -12);
        due("a body where a row was", x.shift(1, 0, 0, 0, 1), -12);
        promise = 33;
        x.body(1);
        x.body(4);
        x.act(1, 0, 5);
        due("a cow's trace", x.trace(0), 20);
        due("a cow's trace", x.trace(1), 1);
        x.act(2, 3, 5);
        due("a lee's trace", x.trace(0), 50);
        due("a lee's trace", x.trace(3), 20);
        due("a lee's trace", x.trace(5), 11);
    }

    private static void lawsOnTheEdge() {
        promise = 8;
        Object[][] laws = {
            {"f?((((((1))))))", 1}, {"0?1;((((((2))))))", 2}, {"1&1", 1}, {"(0|3)+1", 2}, {"3+!0", 4}, {"3+!7*2", 3},
            {"2*-3+9", 3}, {"(0&1|1)*5", 5}, {"-1" + "+1".repeat(59), 9}, {"-9" + "+0".repeat(58) + "+6", 0},
            {"-9-9" + "+1".repeat(23) + "*1".repeat(35), 5}, {"9999-9993", 6}, {"1<0|2>1&3=3", 1}, {"5-(3-1)-1", 2}};
        for (Object[] l : laws) {
            due("keeps() by " + l[0], kept((String) l[0]), (Integer) l[1]);
        }
        HayRemembers x = rickOf(900);
        tell(x, "3");
        due("a fault at its first byte", tell(x, "x"), -100);
        due("the law stays", x.keeps(0), 3);
        due("a fault in its second line", tell(x, "4;x"), -102);
        due("the law stays", x.keeps(0), 3);
        due("a longer one, then", tell(x, "0?1;0?2;7"), 1);
        due("keeps", x.keeps(0), 7);
        due("a shorter one", tell(x, "f-5"), 1);
        due("keeps", x.keeps(0), 4);
    }

    private static void orderByLaw() {
        promise = 13;
        HayRemembers x = yard(2);
        tell(x, "m");
        shelve(x, 0, 1, 925, 263);
        due("by MARK", x.order(0, 0, -1), 3);
        due("its first", x.order(0, 0, 0), 1);
        x.lay(0, 100);
        x.mend(0, 3, 50);
        tell(x, "a");
        due("none is sold", x.worth(0, 1, -1), 9);
        due("AGE 0", x.order(0, 1, -1), 0);
        HayRemembers y = rickOf(920);
        tell(y, "f-l*3");
        shelve(y, 0, 1, 120);
        y.mend(0, 5, 7);
        due("what lay keeps less under it", y.order(0, 0, -1), 7);
        y.mend(0, 5, 6);
        due("it falls", y.order(0, 0, -1), NOT);
        HayRemembers z = rickOf(940, 140);
        shelve(z, 0, 1, 100, 300);
        due("by Y", z.order(0, 0, -1), 7);
        due("its first", z.order(0, 0, 0), 1);
        tell(z, "k");
        // Y 1, then 1 - 2, then 1 - 2 - 3
        due("by its number", z.order(0, 0, -1), 4);
        HayRemembers seven = yard(1);
        tell(seven, "f-l");
        shelve(seven, 0, 1, 720, 760, 720, 760, 720, 760, 720);
        due("seven", seven.order(0, 0, -1), 7);
        due("the first of like ones", seven.order(0, 0, 0), 0);
        due("then", seven.order(0, 0, 1), 1);
        due("the last", seven.order(0, 0, 6), 6);
    }

    private static void letOutByMany() {
        promise = 14;
        HayRemembers x = rickOf(160, 160, 160, 925, 160, 160, 160, 160, 160, 160);
        x.mend(0, 5, 5);
        // X 4 ahead of it, -5 behind it: no fewer stand
        int[] cuts = {0, 1, 2, 4, 3};
        due("five", x.letOut(0, 5, -1), 5);
        for (int k = 0; k < 5; k++) {
            due("cut " + k, x.letOut(0, 5, k), cuts[k]);
        }
        due("no sixth", x.letOut(0, 5, 5), NOT);
        x.mend(5, 1, 3);
        x.mend(9, 1, 2);
        // 12 lean against it: 7 at least of them have to be gone
        int[] then = {0, 1, 5, 9, 3};
        due("five still", x.letOut(0, 5, -1), 5);
        for (int k = 0; k < 5; k++) {
            due("cut " + k, x.letOut(0, 5, k), then[k]);
        }
        x.mend(0, 5, 6);
        int[] heavy = {0, 5, 9, 3};
        due("fewer by the heavy ones", x.letOut(0, 5, -1), 4);
        for (int k = 0; k < 4; k++) {
            due("cut " + k, x.letOut(0, 5, k), heavy[k]);
        }
    }

    private static void letOutByLaw() {
        promise = 14;
        HayRemembers x = rickOf(921, 422, 223);
        tell(x, "f*k");
        x.mend(0, 5, 3);
        // X 4 without the top, 2 without the lowest, and then 0 without the top
        due("by its number then", x.letOut(0, 3, -1), 2);
        due("first", x.letOut(0, 3, 0), 0);
        due("second", x.letOut(0, 3, 1), 2);
        tell(x, "f-l*4");
        // 9 - 8, 4 - 4, 2: 1 + 0 + 2; without the top 9 - 4 + 4
        x.mend(0, 5, 8);
        due("it falls without the top", x.letOut(0, 3, -1), 2);
        due("first", x.letOut(0, 3, 0), 0);
        HayRemembers y = rickOf(141, 900);
        y.mend(0, 5, 9);
        due("Y is 9 without it", y.letOut(0, 1, -1), 1);
        y.mend(0, 5, 8);
        due("the other first", y.letOut(0, 1, -1), 2);
        due("first", y.letOut(0, 1, 0), 1);
        due("second", y.letOut(0, 1, 1), 0);
    }

    private static void worthByLaw() {
        promise = 15;
        HayRemembers x = rickOf(500, 100, 100);
        tell(x, "0");
        due("nothing is paid", x.worth(0, 2, -1), 0);
        due("first", x.worth(0, 2, 0), 0);
        due("second", x.worth(0, 2, 1), 1);
        tell(x, "f>1?a;0");
        x.mend(0, 3, 8);
        due("it ages", x.worth(0, 2, -1), 9);
        due("another first", x.worth(0, 2, 0), 1);
        due("then it", x.worth(0, 2, 1), 0);
        tell(x, "k*4+l");
        // 8, 4, 0; what lies under others is paid for them, too, but less: 5, 4, 0; 2, 4, 0
        due("from the top", x.worth(0, 3, -1), 12);
        due("first", x.worth(0, 3, 0), 2);
        due("second", x.worth(0, 3, 1), 1);
        due("by one", x.worth(0, 1, -1), 8);
    }

    private static void turnsByLaw() {
        promise = 22;
        HayRemembers x = rickOf(120);
        tell(x, "m|a?0;k");
        due("1 by the builder, 2 by the wind", x.byTurns(0, 2, 0), 3);
        due("any WAY is alike", x.byTurns(0, 2, 1), 0);
        tell(x, "l");
        due("the wind's keeps nothing", x.byTurns(0, 2, 0), 1);
        due("the first to the left", x.byTurns(0, 2, 1), 5);
        tell(x, "f");
        x.mend(0, 5, 0);
        due("whether it stands does not matter", x.byTurns(0, 1, 0), 4);
        due("nothing is laid in deed", x.count(1), 1);
        x.mend(0, 0, 0);
        x.mend(0, 1, 9);
        due("Y is evened", x.byTurns(0, 1, 0), 4);
        due("by down", x.byTurns(0, 1, 1), 4);
        HayRemembers y = rickOf(530);
        due("evened by the last WAY", y.byTurns(0, 1, 0), 0);
        due("7", y.byTurns(0, 1, 1), 7);
    }

    private static void thoughtByLaw() {
        HayRemembers x = rickOf(520, 520);
        tell(x, "5");
        promise = 10;
        due("X", x.lean(0, 0), 10);
        due("Y", x.lean(0, 1), 0);
        promise = 17;
        due("5", x.mean(0, 0), 5);
        due("by 1", x.mean(0, 1), 1);
        promise = 19;
        tell(x, "l?9;f");
        x.mend(0, 5, 13);
        // 9 below
        due("its top is not lain on", x.top(0, 0), 4);
        due("the greatest", x.top(0, 1), 4);
        x.mend(0, 5, 10);
        due("1 alone", x.top(0, 1), 1);
        x.lean(0, 0);
        due("what it keeps", x.top(0, 2), 1 + 16 + 32 + 64 + 128);
        promise = 21;
        HayRemembers y = rickOf(100, 100);
        y.mend(0, 3, 99);
        due("0 hours are less than 1", y.youngest(0, 1), 1);
        due("0 hours in both", y.youngest(0, 0), 0);
        due("youngest of one", rickOf(100).youngest(0, 99), 0);
        y.cut(1);
        due("one that keeps nothing", y.youngest(0, 99), 0);
    }

    /** Winters behind one another by one z, by what the document says and no more. */
    private static void drawnOn() {
        promise = 23;
        int[][] forces = {{9, 3, 5}, {1, 8}, {}, {7, 2, 4, 6}};
        HayRemembers x = yard(4);
        for (int rick = 0; rick < 4; rick++) {
            for (int force : forces[rick]) {
                x.lay(rick, 100 * force + 40);
            }
        }
        x.mend(0, 5, 12);
        for (int seed = -3; seed <= 3; seed++) {
            Winters winters = new Winters(forces, seed * 77777777, 7, 5, 3, 12);
            due("FORCE by " + seed, x.drawn(seed * 77777777, 705, -1), winters.blew);
            due("ends by " + seed, x.drawn(seed * 77777777, 705, 3), winters.stood);
        }
    }

    private static void changesOnTheEdge() {
        promise = 29;
        HayRemembers x = rickOf(500);
        x.mend(0, 4, 1);
        x.mend(0, 5, 30);
        for (int i = 0; i < 39; i++) {
            x.mend(0, 3, 1 + i % 2);
        }
        due("the first is forgotten", x.count(3), 40);
        for (int i = 0; i < 40; i++) {
            x.undo();
        }
        due("COLD stays", x.of(0, 4), 1);
        due("STAND is", x.of(0, 5), 20);
        due("AGE is", x.of(0, 3), 0);
        promise = 30;
        for (int i = 39; i >= 0; i--) {
            due("redo()", x.redo(), i);
        }
        due("STAND is", x.of(0, 5), 30);
        due("AGE is", x.of(0, 3), 1);
    }
}
