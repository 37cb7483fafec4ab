import java.io.IOException;
import java.nio.file.Files;
import java.nio.file.Path;
import java.util.Arrays;
import java.util.function.Supplier;

/**
 * What the tests by sentences share: the document's sentence that is looked at, what is due by it, and yards.
 * A sentence that is named has to stand in the document; a clause of an opened part that none names is told as wrong.
 */
abstract class Sentences {
    static final int BAD = -1, NOT = -2, FULL = -3, STATE = -5, VOID = -2000000000;
    static final int MISSING = -11, UNLIKE = -12, NO_PLACE = -13, NO_SIZE = -14;
    static final int BYTES = 0, SHORTS = 1, INTS = 2, LONGS = 3, BOOLEANS = 4;
    static final int WAY = 0, FORCE = 1, MARK = 2, AGE = 3, COLD = 4, STAND = 5, DAY = 6, DOOR = 7, HEIGHT = 8;
    static final int LEAST = Integer.MIN_VALUE, GREATEST = Integer.MAX_VALUE;
    static final long NO_LONG = Long.MIN_VALUE;
    private static final String DOCUMENT = read();

    private static String part = "";
    private static String head = "";
    private static boolean[] named = {};
    private static String sentence = "no sentence";
    private static int looked = 0;
    private static int wrong = 0;

    /** A call that takes a number. */
    interface Call {
        long by(HayRemembers x, int v);
    }

    private static String read() {
        try {
            return plain(Files.readString(Path.of("../shared/DOC.md")));
        } catch (IOException e) {
            System.out.println("the document is not there, so no sentence is looked up in it: " + e);
            return "";
        }
    }

    private static String plain(String text) {
        return text.replace("```text", " ").replace("```", " ").replaceAll("\\s+", " ");
    }

    /** The part of the document from one place to the next is looked at from now on. */
    static void open(String from, String to) {
        closePart();
        if (DOCUMENT.isEmpty()) {
            return;
        }
        int start = DOCUMENT.indexOf(from);
        int end = start < 0 ? -1 : DOCUMENT.indexOf(to, start + from.length());
        if (start < 0 || end < 0) {
            fail("the document has no part from " + from + " to " + to);
            return;
        }
        head = from;
        part = DOCUMENT.substring(start + from.length(), end);
        named = new boolean[part.length()];
    }

    /** What stands in the part that is looked at; nothing, if the document is not there. */
    static String lookedAt() {
        return part;
    }

    static void promise(int n) {
        open("## Promise " + n + ": ", n < 40 ? "## Promise " + (n + 1) + ": " : "## Not promised");
    }

    /** The sentence that is looked at from now on. */
    static void says(String words) {
        sentence = words;
        looked++;
        int at = part.indexOf(words);
        if (at < 0 && !DOCUMENT.isEmpty()) {
            fail("this does not stand behind \"" + head + "\"");
        }
        for (; at >= 0; at = part.indexOf(words, at + 1)) {
            Arrays.fill(named, at, at + words.length(), true);
        }
    }

    private static void closePart() {
        int start = 0;
        for (int i = 0; i < part.length(); i++) {
            boolean ends = ".;".indexOf(part.charAt(i)) >= 0 && part.charAt(Math.max(0, i - 1)) != '.'
                && (i + 1 == part.length() || part.charAt(i + 1) == ' ');
            if (ends) {
                closeClause(start, i + 1);
                start = i + 1;
            }
        }
        part = "";
    }

    private static void closeClause(int start, int end) {
        boolean some = false;
        for (int i = start; i < end; i++) {
            some |= named[i];
        }
        if (!some && part.substring(start, end).matches(".*[A-Za-z].*")) {
            sentence = part.substring(start, end).trim();
            fail("no test names it");
        }
    }

    private static void fail(String what) {
        wrong++;
        System.out.println("\"" + sentence + "\": " + what);
    }

    static void due(String call, long got, long want) {
        if (got != want) {
            fail(call + " answered " + got + ", due is " + want);
        }
    }

    static void due(String call, String got, String want) {
        if (!got.equals(want)) {
            fail(call + " answered " + got + ", due is " + want);
        }
    }

    /** A number goes from least to greatest: none of these is refused, one beyond each and far ones are. */
    static void takes(String what, int least, int greatest, long refusal, Supplier<HayRemembers> yard, Call call) {
        for (int v = least; v <= greatest; v++) {
            if (call.by(yard.get(), v) == refusal) {
                fail(what + " " + v + " was refused by " + refusal);
            }
        }
        for (int v : new int[] {LEAST, least - 1, greatest + 1, GREATEST}) {
            due(what + " " + v, call.by(yard.get(), v), refusal);
        }
    }

    static void finish() {
        closePart();
        System.out.println(wrong == 0 ? looked + " sentences and clauses hold" : wrong + " faults");
        if (wrong != 0) {
            System.exit(1);
        }
    }

    // ---- yards

    /** A yard of so many ricks, none with a layer. */
    static HayRemembers yard(int ricks) {
        HayRemembers x = new HayRemembers();
        for (int i = 0; i < ricks; i++) {
            x.rick();
        }
        return x;
    }

    static HayRemembers layOn(HayRemembers x, int rick, int... hours) {
        for (int hour : hours) {
            x.lay(rick, hour);
        }
        return x;
    }

    /** One rick with these layers. */
    static HayRemembers rickOf(int... hours) {
        return layOn(yard(1), 0, hours);
    }

    /** One rick with so many layers that are alike. */
    static HayRemembers high(int layers, int hour) {
        HayRemembers x = yard(1);
        for (int i = 0; i < layers; i++) {
            x.lay(0, hour);
        }
        return x;
    }

    static HayRemembers shelve(HayRemembers x, int shelf, int sort, long... values) {
        x.row(shelf, sort, values.length);
        for (int i = 0; i < values.length; i++) {
            x.put(shelf, i, values[i]);
        }
        return x;
    }

    /** A shelf with a body on it, a builder. */
    static HayRemembers embody(HayRemembers x, int shelf) {
        x.keep(shelf, x.body(0));
        return x;
    }

    static HayRemembers mend(HayRemembers x, int number, int what, int v) {
        x.mend(number, what, v);
        return x;
    }

    static int feed(HayRemembers x, String text) {
        for (int i = 0; i < text.length(); i++) {
            x.feed(text.charAt(i));
        }
        return x.count(2);
    }

    static int tell(HayRemembers x, String text) {
        feed(x, text);
        return x.law();
    }

    static HayRemembers ruled(HayRemembers x, String text) {
        due("law() of " + text, tell(x, text), 1);
        return x;
    }
}
