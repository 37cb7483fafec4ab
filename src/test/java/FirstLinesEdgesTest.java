import java.lang.reflect.Constructor;
import java.lang.reflect.Field;
import java.lang.reflect.Method;
import java.lang.reflect.Modifier;
import java.util.Arrays;
import java.util.Set;
import java.util.TreeSet;
import java.util.regex.Matcher;
import java.util.regex.Pattern;

/** The document's first lines: what the program is, by a call for each clause, and the public face, as it is written. */
public final class FirstLinesEdgesTest extends Sentences {
    public static void main(String[] args) throws Exception {
        open("## What it is ", "An object is used");
        ricks();
        thought();
        worth();
        deed();
        shelves();
        open("## The public face", "## Terms");
        face();
        openHeadings();
        open("## Not promised ", "Nothing is promised beyond");
        notPromised();
        finish();
    }

    private static void ricks() {
        says("Hay remembers which way the wind was: ricks of layers, each an hour of June with its wind, its force and "
            + "what was heard in it, kept by a law told as a text, of age, of what lies on it, of cold;");
        HayRemembers x = rickOf(521, 367);
        due("the wind", x.of(1, WAY), 6);
        due("its force", x.of(1, FORCE), 3);
        due("what was heard", x.of(1, MARK), 7);
        ruled(mend(x, 0, AGE, 3), "f-a+l*4-c");
        due("kept by age, by what lies on it", x.keeps(0), 6);
        due("kept by cold", mend(x, 0, COLD, 2).keeps(0), 4);
        says("how a rick leans by all of them, whether it stands;");
        HayRemembers all = high(12, 110);
        due("X of twelve", all.lean(0, 0), 12);
        due("Y of twelve", all.lean(0, 1), -12);
        due("stands by 12", mend(all, 0, STAND, 12).lean(0, 2), 1);
        due("stands by 11", mend(all, 0, STAND, 11).lean(0, 2), 0);
    }

    private static void thought() {
        says("cuts that let an hour out, what blows then, which door it takes off, the first;");
        HayRemembers x = shelve(mend(rickOf(421, 562), 6, DOOR, 5), 0, BYTES, 0, 0);
        due("hours let out", x.winter(0, 2, 4), 6);
        due("what blows", x.winter(0, 2, 1), 9);
        due("the first that took a door", x.winter(0, 2, 2), 1);
        says("orders of laying by which a rick stands, leans least;");
        HayRemembers laid = shelve(mend(yard(1), 0, STAND, 6), 0, SHORTS, 320, 360, 620, 360);
        due("leans least", laid.order(0, 0, -1), 3);
        due("its second", laid.order(0, 0, 1), 1);
        due("its third", laid.order(0, 0, 2), 3);
        due("its last", laid.order(0, 0, 3), 2);
        says("which cuts let a told thing out so that it stands, the fewest;");
        HayRemembers told = mend(rickOf(503, 640, 440), 0, STAND, 5);
        due("the fewest", told.letOut(0, 3, -1), 2);
        due("the first of them", told.letOut(0, 3, 0), 1);
        due("the second of them", told.letOut(0, 3, 1), 0);
    }

    private static void worth() {
        says("what a rick is worth by selling so many hours;");
        due("two hours", rickOf(300, 900, 500).worth(0, 2, -1), 14);
        says("how likely a cut has a cuckoo;");
        HayRemembers cuckoos = rickOf(104, 104, 100, 101, 104, 104);
        due("a cuckoo, above", cuckoos.likely(4, 1, 0), 2);
        due("a cuckoo, below", cuckoos.likely(4, 1, 1), 3);
        says("what lay in it, by what came out, all that fit;");
        HayRemembers x = shelve(mend(rickOf(920, 960), 0, STAND, 3), 0, BYTES, 6, 2, 0);
        due("what came out", x.judge(0, 0), 2);
        due("all forces that fit", x.top(0, 0), 4);
        due("all ways that fit", x.top(0, 2), 64);
        says("builder and wind by turns;");
        due("builder and wind", rickOf(920).byTurns(0, 2, 0), 9);
        says("who has been within how long;");
        due("within", rickOf(400).hours(0, 49), 9);
        says("winters by draws;");
        HayRemembers still = rickOf(400, 540);
        due("three winters that cut all", still.drawn(99, 302, -1), 27);
    }

    private static void deed() {
        says("laying, cutting, days in deed;");
        HayRemembers x = rickOf(400, 540);
        x.cut(0);
        x.day();
        due("laid", x.led(0), 2);
        due("cut", x.led(1), 1);
        due("days", x.led(4), 1);
        due("its age", x.of(0, AGE), 1);
        says("layers, cold mended, undone;");
        due("a layer mended", x.mend(0, FORCE, 9), 5);
        due("cold mended", x.mend(0, COLD, 9), 0);
        due("cold undone", x.undo(), 1);
        due("cold", x.of(0, COLD), 0);
        due("a layer undone", x.undo(), 0);
        due("its force", x.of(0, FORCE), 5);
        says("an image;");
        x.image();
        x.cut(0);
        x.back();
        due("what lies", x.of(0, HEIGHT), 1);
        says("and each hour and knife led.");
        x.lay(0, 100);
        x.cut(1);
        due("each hour", x.led(0), 3);
        due("each knife", x.led(1), 2);
    }

    private static void shelves() {
        says("layers from rows that lack or end;");
        HayRemembers x = shelve(yard(1), 0, BYTES, 2, 5, 1, 6, 3);
        due("a row that lacks", x.layers(1, 0, 2), 0);
        due("a row that ends", x.layers(0, 0, 2), 1);
        says("builders whose acts come from above;");
        due("a builder's lays", x.act(x.body(0), 0, 7), 7);
        due("a lee's lays, a cow's", x.act(x.body(4), 0, 7), 7 + 1 + 3);
    }

    // ---- the face, as the document writes it

    private static void face() throws Exception {
        says("public final class HayRemembers {");
        Class<?> c = HayRemembers.class;
        due("public and final", c.getModifiers(), Modifier.PUBLIC | Modifier.FINAL);
        due("a class of no package", c.getPackageName(), "");
        says("public HayRemembers();");
        Constructor<?>[] made = c.getDeclaredConstructors();
        due("constructors", made.length, 1);
        due("public, without numbers", made[0].getModifiers() + made[0].getParameterCount(), Modifier.PUBLIC);
        says("public static final int BAD = -1, NOT = -2, FULL = -3, STATE = -5, VOID = -2000000000;");
        constants(c);
        methods(c);
    }

    private static void constants(Class<?> c) throws Exception {
        Set<String> shown = new TreeSet<>();
        for (Field f : c.getFields()) {
            due(f.getName(), f.getModifiers(), Modifier.PUBLIC | Modifier.STATIC | Modifier.FINAL);
            shown.add(f.getType() + " " + f.getName() + " = " + f.getInt(null));
        }
        due("the constants", shown.toString(),
            "[int BAD = -1, int FULL = -3, int NOT = -2, int STATE = -5, int VOID = -2000000000]");
    }

    private static void methods(Class<?> c) {
        Set<String> written = new TreeSet<>();
        Matcher m = Pattern.compile("public (\\w+ \\w+\\([^)]*\\));").matcher(lookedAt());
        while (m.find()) {
            says(m.group());
            written.add(m.group(1).replaceAll(" \\w+([,)])", "$1"));
        }
        Set<String> shown = new TreeSet<>();
        for (Method method : c.getDeclaredMethods()) {
            if (!Modifier.isPrivate(method.getModifiers())) {
                due(method.getName(), method.getModifiers(), Modifier.PUBLIC);
                String types = Arrays.toString(method.getParameterTypes()).replaceAll("[\\[\\]]", "");
                shown.add(method.getReturnType() + " " + method.getName() + "(" + types + ")");
            }
        }
        due("the methods", lookedAt().isEmpty() ? "" : shown.toString(), lookedAt().isEmpty() ? "" : written.toString());
        due("as many methods", shown.size(), 39);
    }

    /** The headings over the calls tell which belong together; each call stands under one. */
    private static void openHeadings() {
        open("SO THAT NOTHING IS READ TWO WAYS.", "## Promise 1:");
        Set<String> named = new TreeSet<>();
        Matcher m = Pattern.compile("Ahead of the calls ([^:]*) the interface says: ---- [^.]*\\.").matcher(lookedAt());
        while (m.find()) {
            says(m.group());
            Matcher call = Pattern.compile("`(\\w+)`").matcher(m.group(1));
            while (call.find()) {
                named.add(call.group(1));
            }
        }
        if (!lookedAt().isEmpty()) {
            Set<String> shown = new TreeSet<>();
            for (Method method : HayRemembers.class.getMethods()) {
                if (method.getDeclaringClass() == HayRemembers.class) {
                    shown.add(method.getName());
                }
            }
            due("the calls under headings", named.toString(), shown.toString());
        }
        says("All fractions are in lowest terms (0 by 1, where what is above the line is 0).");
        HayRemembers x = rickOf(600, 601, 602);
        due("18 by 3, above", x.mean(0, 0), 6);
        due("18 by 3, below", x.mean(0, 1), 1);
        due("0 of 3, above", x.likely(7, 2, 0), 0);
        due("0 of 3, below", x.likely(7, 2, 1), 1);
    }

    private static void notPromised() {
        says("How the state is held inside the object is free, as are the speed of each call, the text of toString and "
            + "the behaviour of equals and hashCode.");
        HayRemembers x = rickOf(500);
        HayRemembers y = rickOf(500);
        y.cut(0);
        due("one object leaves the other alone", x.of(0, HEIGHT), 1);
        says("Use of one object from several threads at once is not promised to be safe.");
    }
}
