import java.math.BigInteger;
import java.util.ArrayList;
import java.util.Arrays;
import java.util.HashMap;
import java.util.List;
import java.util.Map;

/** Long runs of drawn calls (by a fixed seed) against a model that works everything out the plainest way. */
public final class ModelTest {
    // an object is used for 512 calls at most, and one step of a run makes up to 130
    private static final int RUNS = 300, SEARCHES = 400, CALLS = 512, DEAREST = 130;
    private static int wrong = 0;

    public static void main(String[] args) {
        int runs = args.length > 0 ? Integer.parseInt(args[0]) : RUNS;
        int first = args.length > 1 ? Integer.parseInt(args[1]) : 0;
        for (int run = first; run < first + runs && wrong < 20; run++) {
            new Run(run).play();
        }
        int searches = args.length > 2 ? Integer.parseInt(args[2]) : SEARCHES;
        for (int run = first; run < first + searches && wrong < 20; run++) {
            new Run(run).search();
            new Run(run).letOuts();
        }
        System.out.println(wrong == 0 ? runs + " runs and " + searches + " searches are as the model's" : wrong + " answers are not as the model's");
        if (wrong != 0) {
            System.exit(1);
        }
    }

    private static final class Run {
        final int seed;
        final Draw draw;
        final HayRemembers x = new HayRemembers();
        final Model model = new Model();
        final StringBuilder calls = new StringBuilder();
        int asked = 0;

        Run(int seed) {
            this.seed = seed;
            this.draw = new Draw(seed * 7919L + 17);
        }

        /** One rick, one law, and every search on it with every k. */
        void search() {
            String[] laws = {"f", "f-l", "f+k-l", "f-c/3+l/2*(m>0)", "f*(l+1)/2", "k%2?f;9-f", "l>2?1;f", "a-l-k"};
            int high = draw.below(8);
            boolean right = same("rick()", x.rick(), model.addRick());
            for (int i = 0; i < high && right; i++) {
                int hour = 100 * draw.from(1, 9) + 10 * draw.below(8) + draw.below(3);
                right = same("lay(0, " + hour + ")", x.lay(0, hour), model.lay(0, hour)) && mended(i, 3, draw.below(30));
            }
            int lean = model.greater(model.rick(0));
            String law = laws[draw.below(laws.length)];
            for (int i = 0; i < law.length() && right && !draw.odd(40); i++) {
                right = same("feed", x.feed(law.charAt(i)), model.feed(law.charAt(i)));
            }
            right = right && (model.tape.length() == 0 || same("law()", x.law(), model.readLaw()))
                && mended(0, 5, Math.min(99, draw.odd(2) ? lean + draw.below(4) : draw.from(3, 14)))
                && mended(0, 4, draw.below(10));
            int hours = draw.below(Math.min(7, 13 - high));
            right = right && same("row", x.row(0, 1, hours), model.row(0, 1, hours));
            for (int i = 0; i < hours && right; i++) {
                int hour = 100 * draw.from(1, 9) + 10 * draw.below(8) + draw.below(3);
                right = same("put " + hour, x.put(0, i, hour), model.put(0, i, hour));
            }
            int t = Math.min(4, high);
            for (int k = -1; k <= 7 && right; k++) {
                right = same("order(0, 0, " + k + ")", x.order(0, 0, k), model.order(0, 0, k))
                    && same("letOut(0, 1, " + k + ")", x.letOut(0, 1, k), model.letOut(0, 1, k))
                    && same("letOut(0, 2, " + k + ")", x.letOut(0, 2, k), model.letOut(0, 2, k))
                    && same("worth(0, " + t + ", " + k + ")", x.worth(0, t, k), model.worth(0, t, k));
            }
            for (int n = 1; n <= 3 && right; n++) {
                right = same("byTurns(0, " + n + ", 0)", x.byTurns(0, n, 0), model.byTurns(0, n, 0))
                    && same("byTurns(0, " + n + ", 1)", x.byTurns(0, n, 1), model.byTurns(0, n, 1));
            }
            if (!right) {
                wrong++;
                System.out.println("search " + seed + ":" + calls);
            }
        }

        /** Ricks that stand barely, so that a mark is let out by many cuts. */
        void letOuts() {
            boolean right = same("rick()", x.rick(), model.addRick());
            int high = draw.from(4, 7);
            int heavy = draw.below(high);
            int most = draw.from(1, 3);
            for (int i = 0; i < high && right; i++) {
                int hour = i == heavy ? draw.from(5, 9) * 100 + 21 : 100 * draw.from(1, most) + 10 * draw.from(5, 7);
                right = same("lay(0, " + hour + ")", x.lay(0, hour), model.lay(0, hour));
            }
            for (int stand = 1; stand <= 9 && right; stand++) {
                right = mended(0, 5, stand);
                for (int k = -1; k <= high && right; k++) {
                    right = same("letOut(0, 1, " + k + ")", x.letOut(0, 1, k), model.letOut(0, 1, k));
                }
            }
            if (!right) {
                wrong++;
                System.out.println("letOuts " + seed + ":" + calls);
            }
        }

        boolean mended(int number, int what, int v) {
            return same("mend(" + number + ", " + what + ", " + v + ")", x.mend(number, what, v), model.mend(number, what, v));
        }

        void play() {
            while (asked + DEAREST <= CALLS) {
                if (!one()) {
                    wrong++;
                    System.out.println("run " + seed + ", call " + asked + ":" + calls.substring(calls.lastIndexOf("\n")));
                    return;
                }
            }
        }

        boolean same(String call, long got, long want) {
            asked++;
            calls.append("\n").append(call).append(" answered ").append(got).append(", the model ").append(want);
            return got == want;
        }

        int rick() {
            return draw.odd(25) ? draw.from(-2, 5) : draw.below(Math.max(1, model.ricks.size()));
        }

        int rl() {
            int rick = rick();
            int high = model.rick(rick) == null ? 0 : model.rick(rick).size();
            return 16 * rick + (draw.odd(20) ? draw.from(-1, 15) : draw.below(Math.max(1, high)));
        }

        int shelf() {
            return draw.odd(40) ? draw.from(-2, 7) : draw.below(6);
        }

        /** Mostly one that holds a row of a sort, if there is one. */
        int shelfOf(int sort) {
            int first = draw.below(6);
            for (int i = 0; i < 6 && !draw.odd(12); i++) {
                if (model.refusal((first + i) % 6, sort) == 0) {
                    return (first + i) % 6;
                }
            }
            return shelf();
        }

        int k() {
            return draw.odd(3) ? draw.from(-2, 6) : draw.odd(2) ? -1 : draw.below(4);
        }

        int hour() {
            return draw.odd(15) ? draw.from(-20, 1100) : 100 * draw.from(1, 9) + 10 * draw.below(8) + draw.below(8);
        }

        boolean one() {
            switch (draw.below(24)) {
                case 0: return grow();
                case 1:
                case 2: return layMany();
                case 3: return mends();
                case 4: return fill();
                case 5:
                case 6: return thinks();
                case 7:
                case 8: return searches();
                case 9:
                case 10: return odds();
                case 11: return wakes();
                case 12:
                case 13: return deeds();
                case 14:
                case 15: return turnsBack();
                case 16: return acts();
                case 17:
                case 18: return shelves();
                case 19: return texts();
                case 20: return looks();
                case 21: return looks();
                case 22: return winters();
                default: return judges();
            }
        }

        boolean grow() {
            return draw.odd(3) ? same("rick()", x.rick(), model.addRick()) : layOne();
        }

        boolean layOne() {
            int rick = rick();
            int hour = hour();
            return same("lay(" + rick + ", " + hour + ")", x.lay(rick, hour), model.lay(rick, hour));
        }

        boolean layMany() {
            if (model.ricks.isEmpty()) {
                return grow();
            }
            if (draw.odd(2)) {
                return layOne();
            }
            int shelf = shelfOf(0);
            int i = draw.odd(2) ? 0 : draw.from(-2, 20);
            int rn = 100 * rick() + (draw.odd(9) ? draw.from(-1, 14) : draw.from(1, 4));
            return same("layers(" + shelf + ", " + i + ", " + rn + ")", x.layers(shelf, i, rn), model.layers(shelf, i, rn));
        }

        boolean mends() {
            int what = draw.odd(20) ? draw.from(-1, 9) : draw.below(8);
            int number = what <= 3 ? rl() : what == 7 ? draw.from(0, 8) : draw.odd(9) ? 1 : 0;
            int[] most = {8, 10, 8, 101, 10, 60, 101, 10};
            int v = draw.odd(25) ? -1 : draw.below(what >= 0 && what < 8 ? most[what] : 4);
            v = what == 5 && !draw.odd(4) ? draw.from(4, 18) : v;
            return same("mend(" + number + ", " + what + ", " + v + ")", x.mend(number, what, v), model.mend(number, what, v));
        }

        /** A row that is of use to the other calls. */
        boolean fill() {
            int shelf = draw.below(6);
            int use = draw.below(4);
            int sort = use == 0 ? 1 : 0;
            int n = draw.below(use == 0 ? 8 : use == 1 ? 13 : 30);
            if (!same("row(" + shelf + ", " + sort + ", " + n + ")", x.row(shelf, sort, n), model.row(shelf, sort, n))) {
                return false;
            }
            for (int i = 0; i < n; i++) {
                int v = use == 0 ? hour() : use == 1 ? rl() : i % 3 == 1 ? draw.from(1, 9) : draw.below(8);
                v = draw.odd(60) ? draw.from(-200, 2000) : v;
                if (!same("put(" + shelf + ", " + i + ", " + v + ")", x.put(shelf, i, v), model.put(shelf, i, v))) {
                    return false;
                }
            }
            return true;
        }

        boolean thinks() {
            int rl = rl();
            int rick = rick();
            int what = draw.from(0, 2);
            what = draw.odd(30) ? draw.from(-1, 3) : what;
            return same("keeps(" + rl + ")", x.keeps(rl), model.keeps(rl))
                && same("lean(" + rick + ", " + what + ")", x.lean(rick, what), model.lean(rick, what))
                && same("top(" + rick + ", " + what + ")", x.top(rick, what), model.top(rick, what));
        }

        boolean winters() {
            int shelf = shelfOf(0);
            int n = draw.odd(20) ? draw.from(-1, 26) : draw.from(0, 24);
            int rick = rick();
            for (int what = -1; what <= 5; what++) {
                String winter = "winter(" + shelf + ", " + n + ", " + what + ")";
                String then = "leanThen(" + shelf + ", " + n + ", " + rick + ", " + what + ")";
                if (!same(winter, x.winter(shelf, n, what), model.winter(shelf, n, what))
                    || !same(then, x.leanThen(shelf, n, rick, what), model.leanThen(shelf, n, rick, what))) {
                    return false;
                }
            }
            return true;
        }

        boolean searches() {
            int shelf = shelfOf(1);
            int rick = rick();
            int k = k();
            int t = draw.odd(20) ? draw.from(-1, 5) : draw.from(0, 4);
            int mark = draw.odd(15) ? draw.from(-1, 9) : draw.from(1, 7);
            int n = draw.odd(20) ? draw.from(-1, 5) : draw.from(1, 4);
            int what = draw.odd(20) ? draw.from(-1, 2) : draw.below(2);
            List<Layer> layers = model.rick(rick);
            boolean few = layers == null || layers.size() <= 7;
            return same("order(" + shelf + ", " + rick + ", " + k + ")", x.order(shelf, rick, k), model.order(shelf, rick, k))
                && (!few || same("letOut(" + rick + ", " + mark + ", " + k + ")", x.letOut(rick, mark, k), model.letOut(rick, mark, k)))
                && same("worth(" + rick + ", " + t + ", " + k + ")", x.worth(rick, t, k), model.worth(rick, t, k))
                && same("byTurns(" + rick + ", " + n + ", " + what + ")", x.byTurns(rick, n, what), model.byTurns(rick, n, what));
        }

        boolean odds() {
            int rick = rick();
            int part = draw.odd(20) ? draw.from(-1, 2) : draw.below(2);
            int rm = 10 * rick + (draw.odd(9) ? draw.from(-1, 9) : draw.from(1, 7));
            int t = draw.odd(20) ? draw.from(-1, 13) : draw.from(0, 12);
            int seed = draw.next();
            int nm = draw.odd(9) ? draw.from(-150, 3200) : 100 * draw.from(1, 30) + draw.from(1, 12);
            int which = draw.odd(2) ? -1 : rick;
            return same("likely(" + rm + ", " + t + ", " + part + ")", x.likely(rm, t, part), model.likely(rm, t, part))
                && same("mean(" + rick + ", " + part + ")", x.mean(rick, part), model.mean(rick, part))
                && same("drawn(" + seed + ", " + nm + ", " + which + ")", x.drawn(seed, nm, which), model.drawn(seed, nm, which));
        }

        boolean wakes() {
            int rl = rl();
            int rick = rick();
            int n = draw.odd(20) ? draw.from(-2, 101) : draw.from(0, 99);
            return same("hours(" + rl + ", " + n + ")", x.hours(rl, n), model.hours(rl, n))
                && same("youngest(" + rick + ", " + n + ")", x.youngest(rick, n), model.youngest(rick, n));
        }

        boolean deeds() {
            int rl = rl();
            return draw.odd(2) ? same("cut(" + rl + ")", x.cut(rl), model.cut(rl)) : same("day()", x.day(), model.day());
        }

        boolean turnsBack() {
            switch (draw.below(8)) {
                case 0: return same("image()", x.image(), model.image());
                case 1: return !draw.odd(2) || same("back()", x.back(), model.back());
                case 2:
                case 3:
                case 4: return same("undo()", x.undo(), model.undo());
                default: return same("redo()", x.redo(), model.redo());
            }
        }

        boolean acts() {
            int kind = draw.odd(20) ? draw.from(-1, 8) : draw.below(8);
            int body = draw.odd(20) ? draw.from(-1, 60) : draw.below(Math.max(1, model.kinds.size()));
            int act = draw.odd(20) ? draw.from(-1, 4) : draw.below(4);
            int v = draw.odd(2) ? draw.next() : draw.from(-9, 9);
            int shelf = shelf();
            int kept = draw.odd(9) ? draw.from(-2, 60) : body;
            if (!same("body(" + kind + ")", x.body(kind), model.body(kind))
                || !same("act(" + body + ", " + act + ", " + v + ")", x.act(body, act, v), model.act(body, act, v))) {
                return false;
            }
            int i = draw.from(-1, 9);
            return same("trace(" + i + ")", x.trace(i), model.trace(i))
                && (draw.odd(2) || same("keep(" + shelf + ", " + kept + ")", x.keep(shelf, kept), model.keep(shelf, kept)))
                && same("taken(" + shelf + ", " + kind + ")", x.taken(shelf, kind), model.taken(shelf, kind));
        }

        boolean shelves() {
            int shelf = shelf();
            int other = draw.odd(2) ? shelf : shelf();
            int sort = draw.odd(20) ? draw.from(-1, 5) : draw.below(5);
            int n = draw.odd(12) ? draw.from(-3, 63) : draw.below(12);
            int i = draw.odd(12) ? draw.from(-2, 62) : draw.below(10);
            int j = draw.odd(12) ? draw.from(-2, 62) : draw.below(10);
            long v = draw.odd(2) ? ((long) draw.next() << 32) ^ draw.next() : draw.from(-300, 300);
            if (draw.odd(6) && !same("row(" + shelf + ", " + sort + ", " + n + ")", x.row(shelf, sort, n), model.row(shelf, sort, n))) {
                return false;
            }
            return same("put(" + shelf + ", " + i + ", " + v + ")", x.put(shelf, i, v), model.put(shelf, i, v))
                && same("shift(" + shelf + ", " + i + ", " + other + ", " + j + ", " + n + ")", x.shift(shelf, i, other, j, n), model.shift(shelf, i, other, j, n))
                && same("element(" + other + ", " + j + ")", x.element(other, j), model.element(other, j));
        }

        boolean texts() {
            String[] plain = {"f", "f-l", "f+k-l", "f-a/20-c/3+l/2*(m>0)", "f*(l+1)/2", "k%2?f;9-f", "f+a%3-k", "l>2?1;f", "9"};
            String text = draw.odd(2) ? plain[draw.below(plain.length)] : draw.odd(60) ? "f".repeat(draw.from(100, 125)) : new TextDraw(draw).text();
            for (int i = 0; i < text.length(); i++) {
                if (!same("feed(" + (int) text.charAt(i) + ")", x.feed(text.charAt(i)), model.feed(text.charAt(i)))) {
                    return false;
                }
            }
            return same("law() of " + text, x.law(), model.readLaw());
        }

        boolean looks() {
            int what = draw.odd(20) ? draw.from(-1, 9) : draw.below(9);
            int number = what <= 3 ? rl() : what == 7 ? draw.from(0, 8) : what == 8 ? rick() : draw.odd(9) ? 1 : 0;
            int led = draw.from(-1, 5);
            int count = draw.from(-1, 6);
            return same("of(" + number + ", " + what + ")", x.of(number, what), model.of(number, what))
                && same("led(" + led + ")", x.led(led), model.led(led))
                && same("count(" + count + ")", x.count(count), model.count(count));
        }

        boolean judges() {
            int shelf = shelf();
            int rick = rick();
            List<Layer> layers = model.rick(rick);
            if (layers != null && shelf >= 0 && shelf < 6 && draw.odd(2)) {
                int n = Math.max(0, layers.size() - draw.below(2) + draw.below(2));
                asked += 1 + n;
                x.row(shelf, 0, n);
                model.row(shelf, 0, n);
                for (int i = 0; i < n; i++) {
                    int from = layers.size() - 1 - i;
                    int v = from < 0 || draw.odd(12) ? draw.below(9) : layers.get(from).told[0];
                    x.put(shelf, i, v);
                    model.put(shelf, i, v);
                }
            }
            return same("judge(" + shelf + ", " + rick + ")", x.judge(shelf, rick), model.judge(shelf, rick));
        }
    }

    private static final class Draw {
        long z;

        Draw(long seed) {
            z = seed * 6364136223846793005L + 1442695040888963407L;
        }

        int next() {
            z = z * 6364136223846793005L + 1442695040888963407L;
            return (int) (z >>> 32);
        }

        int below(int n) {
            return Math.floorMod(next() >>> 3, n);
        }

        int from(int least, int most) {
            return least + below(most - least + 1);
        }

        boolean odd(int n) {
            return below(n) == 0;
        }
    }

    /** Texts by the grammar, and some that miss it. */
    private static final class TextDraw {
        final Draw draw;

        TextDraw(Draw draw) {
            this.draw = draw;
        }

        String text() {
            StringBuilder text = new StringBuilder(line());
            while (draw.odd(3) && text.length() < 40) {
                text.append(';').append(line());
            }
            if (draw.odd(3) && text.length() > 0) {
                String bytes = "0123456789falmck()!-+*/%<=>&|?; x\u00e9";
                int place = draw.below(text.length());
                char c = bytes.charAt(draw.below(bytes.length()));
                switch (draw.below(3)) {
                    case 0: text.setCharAt(place, c); break;
                    case 1: text.insert(place, c); break;
                    default: text.deleteCharAt(place);
                }
            }
            return text.toString();
        }

        String line() {
            return draw.odd(3) ? sum(0, 0) + "?" + sum(0, 0) : sum(0, 0);
        }

        String sum(int level, int deep) {
            String[] signs = {"|", "&", "<=>", "+-", "*/%"};
            if (level == 5) {
                return operand(deep);
            }
            String s = sum(level + 1, deep);
            while (draw.odd(level == 3 ? 3 : 6)) {
                s = s + signs[level].charAt(draw.below(signs[level].length())) + sum(level + 1, deep);
                if (level == 2 && !draw.odd(30)) {
                    break;
                }
            }
            return s;
        }

        String operand(int deep) {
            int which = draw.below(12);
            if (which < 6 || deep > 7) {
                return "" + "falmck".charAt(draw.below(6));
            }
            if (which < 9) {
                return "" + (draw.odd(9) ? draw.below(12000) : draw.below(12));
            }
            return which == 9 ? "!" + operand(deep + 1) : which == 10 ? "-" + operand(deep + 1) : "(" + sum(0, deep + 1) + ")";
        }
    }

    private static final class Layer {
        final int[] told = new int[4];

        Layer(int way, int force, int mark, int age) {
            told[0] = way;
            told[1] = force;
            told[2] = mark;
            told[3] = age;
        }

        Layer(int wfm) {
            this(wfm / 10 % 10, wfm / 100, wfm % 10, 0);
        }

        Layer copy() {
            return new Layer(told[0], told[1], told[2], told[3]);
        }
    }

    private static final class Change {
        int what;
        int number;
        Layer layer;
        int was;
        int is;
    }

    /** The document, told the plainest way. */
    private static final class Model {
        static final int[] RIGHT = {0, 1, 1, 1, 0, -1, -1, -1};
        static final int[] DOWN = {-1, -1, 0, 1, 1, 1, 0, -1};
        List<List<Layer>> ricks = new ArrayList<>();
        List<List<Layer>> imaged = null;
        int[] deeds = new int[5];
        int[] imagedDeeds;
        int day;
        int imagedDay;
        int cold;
        int stand = 20;
        int[] doors = {9, 9, 9, 9, 9, 9, 9, 9};
        StringBuilder tape = new StringBuilder();
        String law = null;
        Map<String, Integer> known = new HashMap<>();
        List<Change> done = new ArrayList<>();
        List<Change> undone = new ArrayList<>();
        List<Integer> kinds = new ArrayList<>();
        List<Integer> ran = new ArrayList<>();
        Object[] shelves = new Object[6];
        int[] sorts = new int[6];

        List<Layer> rick(int rick) {
            return rick >= 0 && rick < ricks.size() ? ricks.get(rick) : null;
        }

        Layer layer(int rl) {
            List<Layer> rick = rl < 0 ? null : rick(rl / 16);
            return rick == null || rl % 16 >= rick.size() ? null : rick.get(rl % 16);
        }

        int addRick() {
            if (ricks.size() == 4) {
                return -3;
            }
            ricks.add(new ArrayList<>());
            return ricks.size() - 1;
        }

        static boolean hour(long v) {
            for (int f = 1; f <= 9; f++) {
                for (int w = 0; w <= 7; w++) {
                    for (int m = 0; m <= 7; m++) {
                        if (v == 100 * f + 10 * w + m) {
                            return true;
                        }
                    }
                }
            }
            return false;
        }

        int lay(int rick, int wfm) {
            if (rick(rick) == null || !hour(wfm)) {
                return -1;
            }
            if (rick(rick).size() == 12) {
                return -3;
            }
            deeds[0]++;
            rick(rick).add(new Layer(wfm));
            return rick(rick).size() - 1;
        }

        /** 0, if a row of a sort is there. */
        int refusal(int shelf, int sort) {
            if (shelf < 0 || shelf > 5) {
                return -1;
            }
            return shelves[shelf] == null ? -11 : !(shelves[shelf] instanceof long[]) || sorts[shelf] != sort ? -12 : 0;
        }

        int layers(int shelf, int i, int rn) {
            if (shelf < 0 || shelf > 5 || rn < 0 || rick(rn / 100) == null || rn % 100 < 1 || rn % 100 > 12) {
                return -1;
            }
            if (shelves[shelf] == null) {
                return 0;
            }
            if (refusal(shelf, 0) != 0) {
                return -12;
            }
            long[] row = (long[]) shelves[shelf];
            int came = 0;
            try {
                for (; came < rn % 100; came++) {
                    long w = row[i + 3 * came];
                    long f = row[i + 3 * came + 1];
                    long m = row[i + 3 * came + 2];
                    if (w < 0 || w > 7 || f < 1 || f > 9 || m < 0 || m > 7 || lay(rn / 100, (int) (100 * f + 10 * w + m)) < 0) {
                        break;
                    }
                }
            } catch (ArrayIndexOutOfBoundsException end) {
                return came;
            }
            return came;
        }

        int of(int number, int what) {
            switch (what) {
                case 0:
                case 1:
                case 2:
                case 3: return layer(number) == null ? -1 : layer(number).told[what];
                case 4: return number == 0 ? cold : -1;
                case 5: return number == 0 ? stand : -1;
                case 6: return number == 0 ? day : -1;
                case 7: return number < 0 || number > 7 ? -1 : doors[number];
                case 8: return rick(number) == null ? -1 : rick(number).size();
                default: return -1;
            }
        }

        int mend(int number, int what, int v) {
            int[] least = {0, 1, 0, 0, 0, 0, 0, 1};
            int[] most = {7, 9, 7, 99, 9, 99, 99, 9};
            if (what < 0 || what > 7 || of(number, what) == -1 || v < least[what] || v > most[what]) {
                return -1;
            }
            Change c = new Change();
            c.what = what;
            c.number = number;
            c.layer = what < 4 ? layer(number) : null;
            c.was = of(number, what);
            c.is = v;
            if (c.was != v) {
                tell(c, v);
                done.add(c);
                undone.clear();
                if (done.size() > 40) {
                    done.remove(0);
                }
            }
            return c.was;
        }

        void tell(Change c, int v) {
            switch (c.what) {
                case 4: cold = v; break;
                case 5: stand = v; break;
                case 6: day = v; break;
                case 7: doors[c.number] = v; break;
                default: c.layer.told[c.what] = v;
            }
        }

        int undo() {
            if (done.isEmpty()) {
                return -5;
            }
            Change c = done.remove(done.size() - 1);
            tell(c, c.was);
            undone.add(c);
            return done.size();
        }

        int redo() {
            if (undone.isEmpty()) {
                return -5;
            }
            Change c = undone.remove(undone.size() - 1);
            tell(c, c.is);
            done.add(c);
            return undone.size();
        }

        int feed(int letter) {
            if (tape.length() == 120) {
                return -3;
            }
            tape.append((char) letter);
            return tape.length();
        }

        int readLaw() {
            String text = tape.toString();
            tape.setLength(0);
            Grammar grammar = new Grammar();
            if (grammar.is("TEXT", text, 0)) {
                law = text;
                known.clear();
                return 1;
            }
            for (int i = 1; i <= text.length(); i++) {
                if (!grammar.goesOn(text.substring(0, i))) {
                    return -100 - (i - 1);
                }
            }
            return -100 - text.length();
        }

        int amount(Layer layer, int k, int above) {
            if (law == null) {
                return Math.max(0, layer.told[1] - layer.told[3] / 10);
            }
            Map<Character, Integer> names = new HashMap<>();
            names.put('f', layer.told[1]);
            names.put('a', layer.told[3]);
            names.put('l', above);
            names.put('m', layer.told[2]);
            names.put('c', cold);
            names.put('k', k);
            return known.computeIfAbsent(names.toString(), n -> Math.max(0, Math.min(9, Worker.text(law, names))));
        }

        int amount(List<Layer> rick, int k) {
            return amount(rick.get(k), k, rick.size() - 1 - k);
        }

        int keeps(int rl) {
            return layer(rl) == null ? -1 : amount(rick(rl / 16), rl % 16);
        }

        int x(List<Layer> rick) {
            int sum = 0;
            for (int k = 0; k < rick.size(); k++) {
                sum += amount(rick, k) * RIGHT[rick.get(k).told[0]];
            }
            return sum;
        }

        int y(List<Layer> rick) {
            int sum = 0;
            for (int k = 0; k < rick.size(); k++) {
                sum += amount(rick, k) * DOWN[rick.get(k).told[0]];
            }
            return sum;
        }

        int greater(List<Layer> rick) {
            return Math.max(Math.abs(x(rick)), Math.abs(y(rick)));
        }

        boolean stands(List<Layer> rick) {
            return greater(rick) <= stand;
        }

        int lean(int rick, int what) {
            if (rick(rick) == null || what < 0 || what > 2) {
                return -2000000000;
            }
            return what == 0 ? x(rick(rick)) : what == 1 ? y(rick(rick)) : stands(rick(rick)) ? 1 : 0;
        }

        List<List<Layer>> copies() {
            List<List<Layer>> all = new ArrayList<>();
            for (List<Layer> rick : ricks) {
                List<Layer> copy = new ArrayList<>();
                for (Layer layer : rick) {
                    copy.add(layer.copy());
                }
                all.add(copy);
            }
            return all;
        }

        List<List<Layer>> then;

        int[] wintered(long[] row, int n) {
            then = copies();
            int[] told = {0, 0, -2, -2, 0};
            for (int i = 0; i < n && i < row.length; i++) {
                long e = row[i];
                if (e < 0 || e / 16 >= ricks.size() || e % 16 >= 12) {
                    break;
                }
                List<Layer> rick = then.get((int) (e / 16));
                int k = (int) (e % 16);
                if (k >= rick.size()) {
                    continue;
                }
                int blows = amount(rick, k);
                Layer cut = rick.remove(k);
                told[0]++;
                told[1] += blows;
                if (told[2] == -2 && blows >= doors[cut.told[0]]) {
                    told[2] = i;
                }
                if (told[3] == -2 && !stands(rick)) {
                    told[3] = i;
                }
                if (cut.told[2] != 0) {
                    told[4] |= 1 << cut.told[2];
                }
            }
            return told;
        }

        int winter(int shelf, int n, int what) {
            if (shelf < 0 || shelf > 5 || n < 0 || n > 24 || what < 0 || what > 4) {
                return -1;
            }
            return refusal(shelf, 0) != 0 ? refusal(shelf, 0) : wintered((long[]) shelves[shelf], n)[what];
        }

        int leanThen(int shelf, int n, int rick, int what) {
            if (shelf < 0 || shelf > 5 || n < 0 || n > 24 || rick(rick) == null || what < 0 || what > 1 || refusal(shelf, 0) != 0) {
                return -2000000000;
            }
            wintered((long[]) shelves[shelf], n);
            return what == 0 ? x(then.get(rick)) : y(then.get(rick));
        }

        int least;
        List<Integer> best;

        int order(int shelf, int rick, int k) {
            if (shelf < 0 || shelf > 5 || rick(rick) == null || k < -1) {
                return -1;
            }
            if (refusal(shelf, 1) != 0) {
                return refusal(shelf, 1);
            }
            List<Layer> hours = new ArrayList<>();
            for (long v : (long[]) shelves[shelf]) {
                if (!hour(v)) {
                    break;
                }
                hours.add(new Layer((int) v));
            }
            if (hours.size() > 7) {
                return -5;
            }
            if (rick(rick).size() + hours.size() > 12) {
                return -2;
            }
            best = null;
            tryOrders(new ArrayList<>(rick(rick)), hours, new ArrayList<>(), 0);
            return best == null || k >= hours.size() ? -2 : k < 0 ? least : best.get(k);
        }

        void tryOrders(List<Layer> rick, List<Layer> hours, List<Integer> path, int worst) {
            if (path.size() == hours.size()) {
                if (best == null || worst < least) {
                    best = new ArrayList<>(path);
                    least = worst;
                }
                return;
            }
            for (int i = 0; i < hours.size(); i++) {
                if (path.contains(i)) {
                    continue;
                }
                rick.add(hours.get(i));
                path.add(i);
                if (stands(rick)) {
                    tryOrders(rick, hours, path, Math.max(worst, greater(rick)));
                }
                path.remove(path.size() - 1);
                rick.remove(rick.size() - 1);
            }
        }

        int letOut(int rick, int mark, int k) {
            if (rick(rick) == null || mark < 1 || mark > 7 || k < -1) {
                return -1;
            }
            List<Layer> all = rick(rick);
            for (int n = 1; n <= all.size(); n++) {
                List<Integer> found = cuts(all, new ArrayList<>(all), mark, n);
                if (found != null) {
                    return k < 0 ? n : k < n ? found.get(k) : -2;
                }
            }
            return -2;
        }

        List<Integer> cuts(List<Layer> all, List<Layer> left, int mark, int n) {
            for (int i = 0; i < left.size(); i++) {
                List<Layer> rest = new ArrayList<>(left);
                Layer cut = rest.remove(i);
                if (!stands(rest)) {
                    continue;
                }
                List<Integer> more = n == 1 ? (cut.told[2] == mark ? new ArrayList<>() : null) : cuts(all, rest, mark, n - 1);
                if (more != null) {
                    more.add(0, all.indexOf(cut));
                    return more;
                }
            }
            return null;
        }

        int worth(int rick, int t, int k) {
            if (rick(rick) == null || t < 0 || t > 4 || k < -1 || k >= t) {
                return -1;
            }
            if (rick(rick).size() < t) {
                return -2;
            }
            best = null;
            sell(copies().get(rick), new ArrayList<>(), t, 0, rick(rick).size());
            return k < 0 ? least : best.get(k);
        }

        void sell(List<Layer> left, List<Integer> path, int t, int paid, int n) {
            if (path.size() == t) {
                if (best == null || paid > least) {
                    best = new ArrayList<>(path);
                    least = paid;
                }
                return;
            }
            int k = 0;
            for (int number = 0; number < n; number++) {
                if (path.contains(number)) {
                    continue;
                }
                List<Layer> rest = new ArrayList<>();
                for (Layer layer : left) {
                    Layer older = layer.copy();
                    older.told[3] = Math.min(99, older.told[3] + 1);
                    rest.add(older);
                }
                rest.remove(k);
                path.add(number);
                sell(rest, path, t, paid + amount(left, k), n);
                path.remove(path.size() - 1);
                k++;
            }
        }

        static long lowest(long above, long below, int part) {
            if (above == 0) {
                return part;
            }
            BigInteger g = BigInteger.valueOf(above).gcd(BigInteger.valueOf(below));
            return (part == 0 ? above : below) / g.longValue();
        }

        long likely(int rm, int t, int part) {
            if (rm < 0 || rick(rm / 10) == null || rm % 10 < 1 || rm % 10 > 7 || t < 0 || t > 12 || part < 0 || part > 1) {
                return Long.MIN_VALUE;
            }
            List<Layer> rick = rick(rm / 10);
            int cuts = Math.min(t, rick.size());
            int sets = 0;
            int with = 0;
            for (int set = 0; set < 1 << rick.size(); set++) {
                if (Integer.bitCount(set) != cuts) {
                    continue;
                }
                sets++;
                boolean has = false;
                for (int i = 0; i < rick.size(); i++) {
                    has |= (set >> i & 1) != 0 && rick.get(i).told[2] == rm % 10;
                }
                with += has ? 1 : 0;
            }
            return lowest(with, sets, part);
        }

        long mean(int rick, int part) {
            if (rick(rick) == null || part < 0 || part > 1) {
                return Long.MIN_VALUE;
            }
            long sum = 0;
            for (int k = 0; k < rick(rick).size(); k++) {
                sum += amount(rick(rick), k);
            }
            return lowest(sum, rick(rick).size(), part);
        }

        int judge(int shelf, int rick) {
            if (shelf < 0 || shelf > 5 || rick(rick) == null) {
                return -1;
            }
            if (refusal(shelf, 0) != 0) {
                return refusal(shelf, 0);
            }
            List<Layer> left = new ArrayList<>(rick(rick));
            long[] row = (long[]) shelves[shelf];
            for (int i = 0; i < row.length; i++) {
                if (left.isEmpty() || left.remove(left.size() - 1).told[0] != row[i]) {
                    return i;
                }
            }
            return -2;
        }

        int top(int rick, int what) {
            if (rick(rick) == null || what < 0 || what > 2) {
                return -1;
            }
            int forces = 0;
            int greatest = -2;
            int ways = 0;
            int top = rick(rick).size() - 1;
            for (int v = 0; v <= 9 && top >= 0; v++) {
                List<Layer> other = copies().get(rick);
                other.get(top).told[1] = v;
                if (v >= 1 && stands(other)) {
                    forces++;
                    greatest = v;
                }
                other = copies().get(rick);
                other.get(top).told[0] = v % 8;
                if (v <= 7 && stands(other)) {
                    ways |= 1 << v;
                }
            }
            return what == 0 ? forces : what == 1 ? greatest : ways;
        }

        int hours(int rl, int n) {
            return layer(rl) == null || n < 0 || n > 99 ? -1 : n / (1 + keeps(rl));
        }

        int youngest(int rick, int n) {
            if (rick(rick) == null || n < 0 || n > 99) {
                return -1;
            }
            int found = -2;
            for (int k = rick(rick).size() - 1; k >= 0; k--) {
                if (found < 0 || hours(16 * rick + k, n) <= hours(16 * rick + found, n)) {
                    found = k;
                }
            }
            return found;
        }

        int byTurns(int rick, int n, int what) {
            if (rick(rick) == null || n < 1 || n > 4 || what < 0 || what > 1) {
                return -1;
            }
            if (rick(rick).size() + n > 12) {
                return -2;
            }
            int[] told = turn(copies().get(rick), n, true);
            return told[what];
        }

        int[] turn(List<Layer> rick, int n, boolean builder) {
            if (n == 0) {
                return new int[] {greater(rick), -1};
            }
            int[] chosen = null;
            for (int way = 0; way < 8; way++) {
                rick.add(new Layer(way, 5, 0, 0));
                int then = turn(rick, n - 1, !builder)[0];
                rick.remove(rick.size() - 1);
                if (chosen == null || (builder && then < chosen[0]) || (!builder && then > chosen[0])) {
                    chosen = new int[] {then, way};
                }
            }
            return chosen;
        }

        int drawn(int seed, int nm, int rick) {
            int n = nm / 100;
            int m = nm % 100;
            if (n < 1 || n > 30 || m < 1 || m > 12 || rick != -1 && rick(rick) == null) {
                return -1;
            }
            int z = seed;
            int blew = 0;
            int stood = 0;
            for (int i = 0; i < n; i++) {
                List<List<Layer>> left = copies();
                for (int j = 0; j < m; j++) {
                    z = z * 1103515245 + 12345;
                    if (left.isEmpty()) {
                        continue;
                    }
                    List<Layer> from = left.get((z >>> 8) % left.size());
                    if (!from.isEmpty()) {
                        int k = (z >>> 16) % from.size();
                        blew += amount(from, k);
                        from.remove(k);
                    }
                }
                stood += rick >= 0 && stands(left.get(rick)) ? 1 : 0;
            }
            return rick == -1 ? blew : stood;
        }

        int cut(int rl) {
            if (layer(rl) == null) {
                return -1;
            }
            int blows = keeps(rl);
            Layer cut = rick(rl / 16).remove(rl % 16);
            deeds[1]++;
            deeds[2] += blows;
            deeds[3] += blows >= doors[cut.told[0]] ? 1 : 0;
            return blows;
        }

        int day() {
            for (List<Layer> rick : ricks) {
                for (Layer layer : rick) {
                    layer.told[3] = Math.min(99, layer.told[3] + 1);
                }
            }
            day = Math.min(99, day + 1);
            deeds[4]++;
            return day;
        }

        int led(int what) {
            return what < 0 || what > 4 ? -1 : deeds[what];
        }

        int image() {
            imaged = copies();
            imagedDay = day;
            imagedDeeds = deeds.clone();
            return day;
        }

        int back() {
            if (imaged == null) {
                return -5;
            }
            int count = ricks.size();
            ricks = imaged;
            imaged = copies();
            while (ricks.size() < count) {
                ricks.add(new ArrayList<>());
            }
            day = imagedDay;
            deeds = imagedDeeds.clone();
            return day;
        }

        int body(int kind) {
            if (kind < 0 || kind > 7) {
                return -1;
            }
            if (kinds.size() == 50) {
                return -3;
            }
            kinds.add(kind);
            return kinds.size() - 1;
        }

        int act(int body, int act, int v) {
            ran.clear();
            if (body < 0 || body >= kinds.size() || act < 0 || act > 3) {
                return 0;
            }
            Kinds.Builder b = Kinds.make(kinds.get(body), body);
            int answer = b.perform(act, v);
            ran.addAll(b.ran);
            return answer;
        }

        int trace(int i) {
            return i < 0 || i >= ran.size() || i >= 24 ? -1 : ran.get(i);
        }

        int keep(int shelf, int body) {
            if (shelf < 0 || shelf > 5 || body < -1 || body >= kinds.size()) {
                return -1;
            }
            shelves[shelf] = body < 0 ? null : Integer.valueOf(body);
            return 1;
        }

        int row(int shelf, int sort, int n) {
            if (shelf < 0 || shelf > 5 || sort < 0 || sort > 4 || n > 60) {
                return -1;
            }
            if (n < 0) {
                return -14;
            }
            shelves[shelf] = new long[n];
            sorts[shelf] = sort;
            return 1;
        }

        int refusalAt(int shelf, int i) {
            if (shelf < 0 || shelf > 5) {
                return -1;
            }
            if (shelves[shelf] == null) {
                return -11;
            }
            if (!(shelves[shelf] instanceof long[])) {
                return -12;
            }
            return i < 0 || i >= ((long[]) shelves[shelf]).length ? -13 : 0;
        }

        int put(int shelf, int i, long v) {
            if (refusalAt(shelf, i) != 0) {
                return refusalAt(shelf, i);
            }
            int[] bits = {8, 16, 32, 64};
            long low = sorts[shelf] == 4 ? (v == 0 ? 0 : 1) : v << (64 - bits[sorts[shelf]]) >> (64 - bits[sorts[shelf]]);
            ((long[]) shelves[shelf])[i] = low;
            return 1;
        }

        long element(int shelf, int i) {
            return refusalAt(shelf, i) != 0 ? Long.MIN_VALUE : ((long[]) shelves[shelf])[i];
        }

        int shift(int shelf, int i, int other, int j, int n) {
            if (shelf < 0 || shelf > 5 || other < 0 || other > 5) {
                return -1;
            }
            if (shelves[shelf] == null || shelves[other] == null) {
                return -11;
            }
            if (!(shelves[shelf] instanceof long[]) || !(shelves[other] instanceof long[]) || sorts[shelf] != sorts[other]) {
                return -12;
            }
            try {
                System.arraycopy(shelves[shelf], i, shelves[other], j, n);
            } catch (IndexOutOfBoundsException e) {
                return -13;
            }
            return n;
        }

        int taken(int shelf, int k) {
            if (shelf < 0 || shelf > 5 || k < 0 || k > 7) {
                return -1;
            }
            if (shelves[shelf] == null) {
                return -11;
            }
            if (!(shelves[shelf] instanceof Integer)) {
                return -12;
            }
            int kind = kinds.get((Integer) shelves[shelf]);
            String[] under = {"01234567", "14", "235", "35", "4", "5", "67", "7"};
            return under[k].indexOf('0' + kind) >= 0 ? kind : -12;
        }

        int count(int what) {
            int layers = 0;
            for (List<Layer> rick : ricks) {
                layers += rick.size();
            }
            int[] told = {ricks.size(), layers, tape.length(), done.size(), kinds.size(), ran.size()};
            return what < 0 || what > 5 ? -1 : told[what];
        }
    }

    /** What a text of the law is, by splitting it at every place. */
    private static final class Grammar {
        static final String[] LEVELS = {"TEXT", ";", "LINE", "?", "E", "|", "A", "&", "B", "<=>", "S", "+-", "P", "*/%", "O"};
        final Map<String, Boolean> known = new HashMap<>();

        boolean goesOn(String head) {
            for (String operand : new String[] {"", "1"}) {
                for (int close = 0; close <= 6; close++) {
                    if (is("TEXT", head + operand + ")".repeat(close), 0)) {
                        return true;
                    }
                }
            }
            return false;
        }

        boolean is(String part, String s, int open) {
            String key = part + open + ":" + s;
            Boolean is = known.get(key);
            if (is == null) {
                is = part.equals("O") ? isO(s, open) : isJoined(part, s, open);
                known.put(key, is);
            }
            return is;
        }

        private boolean isJoined(String part, String s, int open) {
            int level = Arrays.asList(LEVELS).indexOf(part);
            String signs = LEVELS[level + 1];
            String next = LEVELS[level + 2];
            boolean once = part.equals("LINE") || part.equals("B");
            if (is(next, s, open)) {
                return true;
            }
            for (int i = s.length() - 1; i >= 0; i--) {
                if (signs.indexOf(s.charAt(i)) >= 0 && is(next, s.substring(i + 1), open)
                    && is(once ? next : part, s.substring(0, i), open)) {
                    return true;
                }
            }
            return false;
        }

        private boolean isO(String s, int open) {
            if (s.matches("[0-9]{1,4}|[falmck]")) {
                return true;
            }
            if (s.isEmpty() || open == 6) {
                return false;
            }
            if (s.charAt(0) == '!' || s.charAt(0) == '-') {
                return is("O", s.substring(1), open + 1);
            }
            return s.charAt(0) == '(' && s.endsWith(")") && s.length() > 1 && is("E", s.substring(1, s.length() - 1), open + 1);
        }
    }

    /** Works a right text out by splitting it at the last sign that binds least. */
    private static final class Worker {
        static int text(String text, Map<Character, Integer> names) {
            for (String line : text.split(";")) {
                String[] parts = line.split("\\?");
                if (parts.length == 1 || value(parts[0], 0, names) != 0) {
                    return value(parts[parts.length - 1], 0, names);
                }
            }
            return 0;
        }

        static int value(String s, int level, Map<Character, Integer> names) {
            String[] signs = {"|", "&", "<=>", "+-", "*/%"};
            if (level == 5) {
                return operand(s, names);
            }
            int deep = 0;
            for (int i = s.length() - 1; i > 0; i--) {
                char c = s.charAt(i);
                deep += c == ')' ? 1 : c == '(' ? -1 : 0;
                boolean joins = "0123456789falmck)".indexOf(s.charAt(i - 1)) >= 0;
                if (deep == 0 && joins && signs[level].indexOf(c) >= 0) {
                    int a = value(s.substring(0, i), level, names);
                    int b = value(s.substring(i + 1), level + 1, names);
                    return joined(c, a, b);
                }
            }
            return value(s, level + 1, names);
        }

        static int operand(String s, Map<Character, Integer> names) {
            switch (s.charAt(0)) {
                case '(': return value(s.substring(1, s.length() - 1), 0, names);
                case '!': return operand(s.substring(1), names) == 0 ? 1 : 0;
                case '-': return -operand(s.substring(1), names);
                default: return names.containsKey(s.charAt(0)) ? names.get(s.charAt(0)) : Integer.parseInt(s);
            }
        }

        static int joined(char sign, int a, int b) {
            switch (sign) {
                case '|': return (a != 0) | (b != 0) ? 1 : 0;
                case '&': return (a != 0) & (b != 0) ? 1 : 0;
                case '<': return a < b ? 1 : 0;
                case '=': return a == b ? 1 : 0;
                case '>': return a > b ? 1 : 0;
                case '+': return (int) ((long) a + b);
                case '-': return (int) ((long) a - b);
                case '*': return (int) ((long) a * b);
                case '/': return b == 0 ? 0 : (int) ((long) a / b);
                default: return b == 0 ? 0 : (int) ((long) a % b);
            }
        }
    }
}
