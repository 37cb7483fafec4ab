import java.util.Arrays;

/**
 * Ricks of layers, each an hour of June with its wind, its force and what was heard in it, kept by a law.
 * The document's promises say what each public method does; the classes inside say how it is held.
 */
public final class HayRemembers {
    public static final int BAD = -1, NOT = -2, FULL = -3, STATE = -5, VOID = -2000000000;

    private static final int MISSING = -11, UNLIKE = -12, NO_PLACE = -13, NO_SIZE = -14;
    private static final long NO_LONG = -9223372036854775808L;
    private static final int RICKS = 4, ROOM = 12, SHELVES = 6, BODIES = 50;
    private static final int MOST_CUTS = 24, MOST_WINTERS = 30, MOST_HOURS = 99, MOST_SOLD = 4;
    private static final int WAY = 0, FORCE = 1, MARK = 2, AGE = 3, COLD = 4, STAND = 5, DAY = 6, DOOR = 7, HEIGHT = 8;
    private static final int OLDEST = 99;
    private static final int BYTES = 0, SHORTS = 1, INTS = 2, LONGS = 3, BOOLEANS = 4;
    private static final int LAID = 0, CUT = 1, BLOWN = 2, DOORS = 3, DAYS = 4;

    private final Law law = new Law();
    private final LawReader reader = new LawReader();
    private final Yard now = new Yard();
    private final Yard imaged = new Yard();
    private final Lean sum = new Lean();
    private final Winter thought = new Winter(law);
    private final Search search = new Search(law);
    private final Changes changes = new Changes();
    private final Acts acts = new Acts();
    private final Shelf[] shelves = new Shelf[SHELVES];
    private final int[] deeds = new int[5];
    private final int[] imagedDeeds = new int[5];
    private boolean hasImage;
    private int today;
    private int imagedDay;
    private int layersEver;

    public HayRemembers() {
        for (int i = 0; i < SHELVES; i++) {
            shelves[i] = new Shelf();
        }
    }

    // ---- ricks, layers

    public int rick() {
        if (now.ricks >= RICKS) {
            return FULL;
        }
        now.ricks++;
        return now.ricks - 1;
    }

    public int lay(int rick, int wfm) {
        if (!now.hasRick(rick) || !isHour(wfm)) {
            return BAD;
        }
        if (now.height(rick) >= ROOM) {
            return FULL;
        }
        return laid(rick, wfm);
    }

    public int layers(int shelf, int i, int rn) {
        Shelf from = shelfAt(shelf);
        int rick = rn / 100;
        int n = rn % 100;
        if (from == null || rn < 0 || !now.hasRick(rick) || n < 1 || n > ROOM) {
            return BAD;
        }
        int refusal = from.refusal(BYTES);
        if (refusal != 0) {
            // only a row of another sort, or a body, is refused: a row that is missing brings no layers
            return refusal == MISSING ? 0 : refusal;
        }
        int came = 0;
        while (came < n && now.height(rick) < ROOM && from.hasPlaces(i, 3 * came + 3)) {
            int place = i + 3 * came;
            if (!isLayer(from.cell(place), from.cell(place + 1), from.cell(place + 2))) {
                break;
            }
            laid(rick, (int) (100 * from.cell(place + 1) + 10 * from.cell(place) + from.cell(place + 2)));
            came++;
        }
        return came;
    }

    public int mend(int number, int what, int v) {
        int was = what == HEIGHT ? BAD : of(number, what);
        if (was == BAD || v < leastOf(what) || v > mostOf(what)) {
            return BAD;
        }
        if (v != was) {
            int whom = what <= AGE ? now.nameOf(number / 16, number % 16) : number;
            changes.add(what, whom, was, v);
            tell(what, whom, v);
        }
        return was;
    }

    public int of(int number, int what) {
        if (number < 0) {
            return BAD;
        }
        if (what >= WAY && what <= AGE) {
            boolean there = now.hasLayer(number / 16, number % 16);
            return there ? now.number(number / 16, number % 16, what) : BAD;
        }
        if (what == DOOR) {
            return number <= 7 ? law.door(number) : BAD;
        }
        if (what == HEIGHT) {
            return now.hasRick(number) ? now.height(number) : BAD;
        }
        if (number != 0) {
            return BAD;
        }
        return what == COLD ? law.cold : what == STAND ? law.stand : what == DAY ? today : BAD;
    }

    public int feed(int letter) {
        if (letter < 0 || letter > 255) {
            return BAD;
        }
        return reader.take(letter) ? reader.length() : FULL;
    }

    public int law() {
        int fault = reader.read();
        if (fault < 0) {
            law.become(reader);
        }
        reader.empty();
        return fault < 0 ? 1 : -100 - fault;
    }

    public int keeps(int rl) {
        return hasLayerAt(rl) ? now.kept(law, rl / 16, rl % 16) : BAD;
    }

    // ---- ricks in thought

    public int lean(int rick, int what) {
        if (!now.hasRick(rick) || what < 0 || what > 2) {
            return VOID;
        }
        now.leanOf(law, rick, sum);
        return what == 0 ? sum.x : what == 1 ? sum.y : law.holds(sum) ? 1 : 0;
    }

    public int winter(int shelf, int n, int what) {
        Shelf from = shelfAt(shelf);
        if (from == null || n < 0 || n > MOST_CUTS || what < 0 || what > 4) {
            return BAD;
        }
        int refusal = from.refusal(BYTES);
        if (refusal != 0) {
            return refusal;
        }
        thought.run(now, from, n);
        switch (what) {
            case 0: return thought.made;
            case 1: return thought.blown;
            case 2: return thought.firstDoor;
            case 3: return thought.firstFall;
            default: return thought.marks;
        }
    }

    public int leanThen(int shelf, int n, int rick, int what) {
        Shelf from = shelfAt(shelf);
        if (from == null || n < 0 || n > MOST_CUTS || !now.hasRick(rick) || what < 0 || what > 1) {
            return VOID;
        }
        if (from.refusal(BYTES) != 0) {
            return VOID;
        }
        thought.run(now, from, n);
        thought.yard.leanOf(law, rick, sum);
        return what == 0 ? sum.x : sum.y;
    }

    public int order(int shelf, int rick, int k) {
        Shelf from = shelfAt(shelf);
        if (from == null || !now.hasRick(rick) || k < -1) {
            return BAD;
        }
        int refusal = from.refusal(SHORTS);
        if (refusal != 0) {
            return refusal;
        }
        int n = hoursOn(from);
        if (n > Search.HOURS) {
            return STATE;
        }
        if (now.height(rick) + n > ROOM || k >= n) {
            return NOT;
        }
        search.begin(now, rick, false);
        for (int i = 0; i < n; i++) {
            search.addHour((int) from.cell(i));
        }
        if (!search.layBest(n)) {
            return NOT;
        }
        return k < 0 ? search.found : search.bestAt(k);
    }

    public int letOut(int rick, int mark, int k) {
        if (!now.hasRick(rick) || mark < 1 || mark > 7 || k < -1) {
            return BAD;
        }
        search.begin(now, rick, false);
        if (!search.letOutBest(mark) || k >= search.found) {
            return NOT;
        }
        return k < 0 ? search.found : search.bestAt(k);
    }

    // ---- worth, odds, what lay

    public int worth(int rick, int t, int k) {
        if (!now.hasRick(rick) || t < 0 || t > MOST_SOLD || k < -1 || k >= t) {
            return BAD;
        }
        if (now.height(rick) < t) {
            return NOT;
        }
        search.begin(now, rick, true);
        search.sellBest(t);
        return k < 0 ? search.found : search.bestAt(k);
    }

    public long likely(int rm, int t, int part) {
        int rick = rm / 10;
        int mark = rm % 10;
        if (rm < 0 || !now.hasRick(rick) || mark < 1 || mark > 7 || t < 0 || t > ROOM || part < 0 || part > 1) {
            return NO_LONG;
        }
        int high = now.height(rick);
        int others = high;
        for (int i = 0; i < high; i++) {
            if (now.number(rick, i, MARK) == mark) {
                others--;
            }
        }
        int cuts = Math.min(t, high);
        long all = choices(high, cuts);
        return lowest(all - choices(others, cuts), all, part);
    }

    public long mean(int rick, int part) {
        if (!now.hasRick(rick) || part < 0 || part > 1) {
            return NO_LONG;
        }
        int high = now.height(rick);
        int all = 0;
        for (int i = 0; i < high; i++) {
            all += now.kept(law, rick, i);
        }
        return lowest(all, high, part);
    }

    public int judge(int shelf, int rick) {
        Shelf from = shelfAt(shelf);
        if (from == null || !now.hasRick(rick)) {
            return BAD;
        }
        int refusal = from.refusal(BYTES);
        if (refusal != 0) {
            return refusal;
        }
        int high = now.height(rick);
        for (int i = 0; i < from.length(); i++) {
            if (i >= high || from.cell(i) != now.number(rick, high - 1 - i, WAY)) {
                return i;
            }
        }
        return NOT;
    }

    public int top(int rick, int what) {
        if (!now.hasRick(rick) || what < 0 || what > 2) {
            return BAD;
        }
        if (now.height(rick) == 0) {
            return what == 1 ? NOT : 0;
        }
        if (what == 2) {
            return waysOfTop(rick);
        }
        int forces = forcesOfTop(rick);
        if (what == 0) {
            return Integer.bitCount(forces);
        }
        return greatestOf(forces);
    }

    public int hours(int rl, int n) {
        if (!hasLayerAt(rl) || n < 0 || n > MOST_HOURS) {
            return BAD;
        }
        return inside(n, now.kept(law, rl / 16, rl % 16));
    }

    public int youngest(int rick, int n) {
        if (!now.hasRick(rick) || n < 0 || n > MOST_HOURS) {
            return BAD;
        }
        int best = NOT;
        int least = MOST_HOURS + 1;
        for (int i = 0; i < now.height(rick); i++) {
            int older = inside(n, now.kept(law, rick, i));
            if (older < least) {
                least = older;
                best = i;
            }
        }
        return best;
    }

    public int byTurns(int rick, int n, int what) {
        if (!now.hasRick(rick) || n < 1 || n > Search.TURNS || what < 0 || what > 1) {
            return BAD;
        }
        if (now.height(rick) + n > ROOM) {
            return NOT;
        }
        search.begin(now, rick, false);
        search.turnsBest(n);
        return what == 0 ? search.found : search.firstWay;
    }

    public int drawn(int seed, int nm, int rick) {
        int n = nm / 100;
        int m = nm % 100;
        if (n < 1 || n > MOST_WINTERS || m < 1 || m > ROOM || rick < -1 || rick >= 0 && !now.hasRick(rick)) {
            return BAD;
        }
        int z = seed;
        int blown = 0;
        int stood = 0;
        for (int i = 0; i < n; i++) {
            z = thought.drawOne(now, z, m);
            blown += thought.blown;
            if (rick >= 0) {
                thought.yard.leanOf(law, rick, sum);
                stood += law.holds(sum) ? 1 : 0;
            }
        }
        return rick < 0 ? blown : stood;
    }

    // ---- in deed

    public int cut(int rl) {
        if (!hasLayerAt(rl)) {
            return BAD;
        }
        int blows = now.kept(law, rl / 16, rl % 16);
        deeds[CUT]++;
        deeds[BLOWN] += blows;
        if (blows >= law.door(now.number(rl / 16, rl % 16, WAY))) {
            deeds[DOORS]++;
        }
        now.takeOut(rl / 16, rl % 16);
        return blows;
    }

    public int day() {
        now.growOlder();
        today = Math.min(OLDEST, today + 1);
        deeds[DAYS]++;
        return today;
    }

    public int led(int what) {
        return what >= 0 && what < deeds.length ? deeds[what] : BAD;
    }

    public int image() {
        imaged.become(now);
        copyDeeds(deeds, imagedDeeds);
        imagedDay = today;
        hasImage = true;
        return today;
    }

    public int back() {
        if (!hasImage) {
            return STATE;
        }
        int ricks = now.ricks;
        now.become(imaged);
        now.ricks = ricks;
        layersEver = now.nameAnew(layersEver);
        copyDeeds(imagedDeeds, deeds);
        today = imagedDay;
        return today;
    }

    public int undo() {
        if (changes.done() == 0) {
            return STATE;
        }
        int i = changes.stepBack();
        tell(changes.part(i, Changes.WHAT), changes.part(i, Changes.WHOM), changes.part(i, Changes.WAS));
        return changes.done();
    }

    public int redo() {
        if (changes.undone() == 0) {
            return STATE;
        }
        int i = changes.stepOn();
        tell(changes.part(i, Changes.WHAT), changes.part(i, Changes.WHOM), changes.part(i, Changes.IS));
        return changes.undone();
    }

    // ---- acts, shelves

    public int body(int kind) {
        return kind < 0 || kind > 7 ? BAD : acts.add(kind);
    }

    public int act(int body, int act, int x) {
        return acts.perform(body, act, x);
    }

    public int trace(int i) {
        return acts.traced(i);
    }

    public int keep(int shelf, int body) {
        Shelf on = shelfAt(shelf);
        if (on == null || body < -1 || body >= acts.bodies()) {
            return BAD;
        }
        on.holdBody(body);
        return 1;
    }

    public int row(int shelf, int sort, int n) {
        Shelf on = shelfAt(shelf);
        if (on == null || sort < 0 || sort > BOOLEANS || n > Shelf.LONGEST) {
            return BAD;
        }
        if (n < 0) {
            return NO_SIZE;
        }
        on.holdRow(sort, n);
        return 1;
    }

    public int put(int shelf, int i, long v) {
        Shelf on = shelfAt(shelf);
        if (on == null) {
            return BAD;
        }
        int refusal = on.refusalAt(i);
        if (refusal != 0) {
            return refusal;
        }
        on.write(i, v);
        return 1;
    }

    public long element(int shelf, int i) {
        Shelf on = shelfAt(shelf);
        return on == null || on.refusalAt(i) != 0 ? NO_LONG : on.cell(i);
    }

    public int shift(int shelf, int i, int other, int j, int n) {
        Shelf from = shelfAt(shelf);
        Shelf to = shelfAt(other);
        if (from == null || to == null) {
            return BAD;
        }
        if (from.isEmpty() || to.isEmpty()) {
            return MISSING;
        }
        if (!from.isRow() || !to.isRow() || from.sort() != to.sort()) {
            return UNLIKE;
        }
        if (!from.hasPlaces(i, n) || !to.hasPlaces(j, n)) {
            return NO_PLACE;
        }
        to.copyFrom(from, i, j, n);
        return n;
    }

    public int taken(int shelf, int k) {
        Shelf on = shelfAt(shelf);
        if (on == null || k < 0 || k > 7) {
            return BAD;
        }
        if (on.isEmpty()) {
            return MISSING;
        }
        if (on.isRow()) {
            return UNLIKE;
        }
        int kind = acts.kindOf(on.heldBody());
        return Acts.isUnder(kind, k) ? kind : UNLIKE;
    }

    public int count(int what) {
        switch (what) {
            case 0: return now.ricks;
            case 1: return now.layersOfAll();
            case 2: return reader.length();
            case 3: return changes.done();
            case 4: return acts.bodies();
            case 5: return acts.ran();
            default: return BAD;
        }
    }

    // ---- what the calls share

    private Shelf shelfAt(int shelf) {
        return shelf >= 0 && shelf < shelves.length ? shelves[shelf] : null;
    }

    private boolean hasLayerAt(int rl) {
        return rl >= 0 && now.hasLayer(rl / 16, rl % 16);
    }

    private static boolean isHour(long wfm) {
        return wfm >= 100 && wfm <= 999 && wfm / 10 % 10 <= 7 && wfm % 10 <= 7;
    }

    private static boolean isLayer(long way, long force, long mark) {
        return way >= 0 && way <= 7 && force >= 1 && force <= 9 && mark >= 0 && mark <= 7;
    }

    private int laid(int rick, int wfm) {
        layersEver++;
        deeds[LAID]++;
        return now.putOn(rick, wfm, layersEver);
    }

    /** How many hours stand at the head of a row of shorts. */
    private static int hoursOn(Shelf from) {
        int n = 0;
        while (n < ROOM && n < from.length() && isHour(from.cell(n))) {
            n++;
        }
        return n;
    }

    private static int leastOf(int what) {
        return what == FORCE || what == DOOR ? 1 : 0;
    }

    private static int mostOf(int what) {
        switch (what) {
            case WAY:
            case MARK: return 7;
            case FORCE:
            case COLD:
            case DOOR: return 9;
            default: return 99;
        }
    }

    /** Writes a number of mend(); whom is the name of a layer, or a way. A layer that lies no more keeps silent. */
    private void tell(int what, int whom, int v) {
        if (what <= AGE) {
            now.tellNamed(whom, what, v);
        } else if (what == COLD) {
            law.cold = v;
        } else if (what == STAND) {
            law.stand = v;
        } else if (what == DAY) {
            today = v;
        } else {
            law.setDoor(whom, v);
        }
    }

    private static void copyDeeds(int[] from, int[] to) {
        for (int i = 0; i < from.length && i < to.length; i++) {
            to[i] = from[i];
        }
    }

    /** Leaves in sum how a rick leans without what its top layer keeps. */
    private void leanBelowTop(int rick) {
        int top = now.height(rick) - 1;
        now.leanOf(law, rick, sum);
        sum.add(now.number(rick, top, WAY), -now.kept(law, rick, top));
    }

    /** The forces of its top layer by which a rick would stand, as bits. */
    private int forcesOfTop(int rick) {
        int top = now.height(rick) - 1;
        int way = now.number(rick, top, WAY);
        leanBelowTop(rick);
        int bits = 0;
        for (int force = 1; force <= 9; force++) {
            int kept = law.amount(force, now.number(rick, top, AGE), now.number(rick, top, MARK), top, 0);
            sum.add(way, kept);
            bits |= law.holds(sum) ? 1 << force : 0;
            sum.add(way, -kept);
        }
        return bits;
    }

    private static int greatestOf(int forces) {
        for (int force = 9; force >= 1; force--) {
            if ((forces >> force & 1) != 0) {
                return force;
            }
        }
        return NOT;
    }

    /** The ways of its top layer by which a rick would stand, as bits. */
    private int waysOfTop(int rick) {
        int kept = now.kept(law, rick, now.height(rick) - 1);
        leanBelowTop(rick);
        int bits = 0;
        for (int way = 0; way <= 7; way++) {
            sum.add(way, kept);
            bits |= law.holds(sum) ? 1 << way : 0;
            sum.add(way, -kept);
        }
        return bits;
    }

    /** How many of n hours pass inside, where so much is kept. */
    private static int inside(int n, int kept) {
        return kept > 0 ? n / (1 + kept) : n;
    }

    /** How many ways there are to choose k of n. */
    private static long choices(int n, int k) {
        if (k > n) {
            return 0;
        }
        long all = 1;
        for (int i = 0; i < k; i++) {
            all = all * (n - i) / (i + 1);
        }
        return all;
    }

    /** A part of a fraction in lowest terms, 0 by 1 where what is above the line is 0. */
    private static long lowest(long above, long below, int part) {
        if (above == 0 || below == 0) {
            return part;
        }
        long a = above;
        long b = below;
        for (int i = 0; i < 100 && b != 0; i++) {
            long rest = a % b;
            a = b;
            b = rest;
        }
        return a == 0 ? part : (part == 0 ? above : below) / a;
    }

    /** A sum of what layers keep, each its way. */
    private static final class Lean {
        private static final int[] RIGHT = {0, 1, 1, 1, 0, -1, -1, -1};
        private static final int[] DOWN = {-1, -1, 0, 1, 1, 1, 0, -1};

        int x;
        int y;

        Lean() {
        }

        void begin(int startX, int startY) {
            x = startX;
            y = startY;
        }

        void add(int way, int amount) {
            x += amount * right(way);
            y += amount * down(way);
        }

        static int right(int way) {
            return way >= 0 && way < RIGHT.length ? RIGHT[way] : 0;
        }

        static int down(int way) {
            return way >= 0 && way < DOWN.length ? DOWN[way] : 0;
        }

        int greater() {
            return Math.max(Math.abs(x), Math.abs(y));
        }
    }

    /** What lies on the ricks: a layer's four numbers stand behind one another, its rick's layers too. */
    private static final class Yard {
        int ricks;
        private final int[] numbers = new int[RICKS * ROOM * 4];
        // a layer's name is its own for ever, so that a change finds it wherever it lies
        private final int[] names = new int[RICKS * ROOM];
        private final int[] heights = new int[RICKS];

        Yard() {
        }

        /** All lies as on another yard; names are not taken along, as all layers are new ones then. */
        void become(Yard other) {
            ricks = other.ricks;
            System.arraycopy(other.numbers, 0, numbers, 0, numbers.length);
            System.arraycopy(other.heights, 0, heights, 0, heights.length);
        }

        boolean hasRick(int rick) {
            return rick >= 0 && rick < ricks && rick < RICKS;
        }

        int height(int rick) {
            return hasRick(rick) ? heights[rick] : 0;
        }

        boolean hasLayer(int rick, int layer) {
            return rick >= 0 && rick < RICKS && layer >= 0 && layer < heights[rick] && layer < ROOM;
        }

        int number(int rick, int layer, int what) {
            boolean there = hasLayer(rick, layer) && what >= WAY && what <= AGE;
            return there ? numbers[(rick * ROOM + layer) * 4 + what] : 0;
        }

        int nameOf(int rick, int layer) {
            return hasLayer(rick, layer) ? names[rick * ROOM + layer] : 0;
        }

        int layersOfAll() {
            int all = 0;
            for (int rick = 0; rick < RICKS; rick++) {
                all += height(rick);
            }
            return all;
        }

        /** Puts an hour on a rick that has room. */
        int putOn(int rick, int wfm, int name) {
            int layer = height(rick);
            if (!hasRick(rick) || layer >= ROOM) {
                return FULL;
            }
            int place = rick * ROOM + layer;
            numbers[place * 4 + WAY] = wfm / 10 % 10;
            numbers[place * 4 + FORCE] = wfm / 100;
            numbers[place * 4 + MARK] = wfm % 10;
            numbers[place * 4 + AGE] = 0;
            names[place] = name;
            heights[rick]++;
            return layer;
        }

        void takeOut(int rick, int layer) {
            if (!hasLayer(rick, layer)) {
                return;
            }
            int place = rick * ROOM + layer;
            int above = heights[rick] - 1 - layer;
            for (int i = 0; i < above && place + i + 1 < names.length; i++) {
                names[place + i] = names[place + i + 1];
            }
            for (int i = place * 4; i < (place + above) * 4 && i + 4 < numbers.length; i++) {
                numbers[i] = numbers[i + 4];
            }
            heights[rick]--;
        }

        void tellNamed(int name, int what, int v) {
            for (int rick = 0; rick < RICKS; rick++) {
                for (int layer = 0; layer < height(rick); layer++) {
                    if (nameOf(rick, layer) == name && what >= WAY && what <= AGE) {
                        numbers[(rick * ROOM + layer) * 4 + what] = v;
                    }
                }
            }
        }

        /** Gives all layers new names behind the latest one; answers the latest then. */
        int nameAnew(int latest) {
            int name = latest;
            for (int i = 0; i < names.length; i++) {
                name++;
                names[i] = name;
            }
            return name;
        }

        void growOlder() {
            for (int i = AGE; i < numbers.length; i += 4) {
                numbers[i] = Math.min(OLDEST, numbers[i] + 1);
            }
        }

        int kept(Law law, int rick, int layer) {
            int force = number(rick, layer, FORCE);
            int age = number(rick, layer, AGE);
            return law.amount(force, age, number(rick, layer, MARK), layer, height(rick) - 1 - layer);
        }

        void leanOf(Law law, int rick, Lean into) {
            into.begin(0, 0);
            for (int layer = 0; layer < height(rick); layer++) {
                into.add(number(rick, layer, WAY), kept(law, rick, layer));
            }
        }
    }

    /** How much a layer keeps, by which lean a rick stands, how much each door bears. */
    private static final class Law {
        int cold;
        int stand = 20;
        private final int[] doors = new int[8];
        private final int[] code = new int[LawReader.CODE];
        private int size;
        private final int[] stack = new int[64];
        private final int[] named = new int[6];

        Law() {
            for (int i = 0; i < doors.length; i++) {
                doors[i] = 9;
            }
        }

        int door(int way) {
            return way >= 0 && way < doors.length ? doors[way] : 0;
        }

        void setDoor(int way, int v) {
            if (way >= 0 && way < doors.length) {
                doors[way] = v;
            }
        }

        boolean holds(Lean lean) {
            return lean.greater() <= stand;
        }

        void become(LawReader read) {
            size = Math.min(read.size(), code.length);
            for (int i = 0; i < size; i++) {
                code[i] = read.codeAt(i);
            }
        }

        int amount(int force, int age, int mark, int k, int above) {
            if (size == 0) {
                return held(force - age / 10);
            }
            // in the order of LawReader.NAMES
            named[0] = force;
            named[1] = age;
            named[2] = above;
            named[3] = mark;
            named[4] = cold;
            named[5] = k;
            return held(worked());
        }

        private static int held(int v) {
            return Math.max(0, Math.min(9, v));
        }

        /** Works the code out on the stack; a line whose first part is 0 is passed over to its end. */
        private int worked() {
            int depth = 0;
            boolean passing = false;
            for (int i = 0; i < size; i++) {
                int op = code[i];
                if (passing) {
                    passing = op != LawReader.END;
                } else if (op < LawReader.OPERATOR) {
                    depth = push(depth, op < LawReader.NAME ? op : named(op - LawReader.NAME));
                } else if (op == LawReader.END) {
                    return under(depth, 1);
                } else if (op == LawReader.TEST) {
                    passing = under(depth, 1) == 0;
                    depth--;
                } else if (op == LawReader.NEGATE) {
                    depth = push(depth - 1, -under(depth, 1));
                } else if (op == LawReader.INVERT) {
                    depth = push(depth - 1, under(depth, 1) == 0 ? 1 : 0);
                } else {
                    depth = push(depth - 2, joined(op - LawReader.OPERATOR, under(depth, 2), under(depth, 1)));
                }
            }
            return 0;
        }

        private int named(int i) {
            return i >= 0 && i < named.length ? named[i] : 0;
        }

        private int push(int depth, int v) {
            if (depth >= 0 && depth < stack.length) {
                stack[depth] = v;
            }
            return depth + 1;
        }

        private int under(int depth, int down) {
            int i = depth - down;
            return i >= 0 && i < stack.length ? stack[i] : 0;
        }

        private static int joined(int sign, int a, int b) {
            switch (sign) {
                case '+': return a + b;
                case '-': return a - b;
                case '*': return a * b;
                case '/': return b == 0 ? 0 : a / b;
                case '%': return b == 0 ? 0 : a % b;
                case '<': return a < b ? 1 : 0;
                case '=': return a == b ? 1 : 0;
                case '>': return a > b ? 1 : 0;
                case '&': return a != 0 && b != 0 ? 1 : 0;
                default: return a != 0 || b != 0 ? 1 : 0;
            }
        }
    }

    /** The tape, and the reader that makes code of it: operands first, then what joins them. */
    private static final class LawReader {
        static final int TAPE = 120;
        // each byte of the tape makes one step at most, and the end of the text one more
        static final int CODE = TAPE + 1;
        // a step below NAME is a number, below OPERATOR a name, above it a sign that joins two
        static final int NAME = 10000, OPERATOR = 10010;
        static final int END = OPERATOR + ';', TEST = OPERATOR + '?', INVERT = OPERATOR + '!', NEGATE = OPERATOR + '~';
        static final String NAMES = "falmck";
        private static final int DEEPEST = 6, OPERANDS = 5, COMPARING = 2;

        private final int[] tape = new int[TAPE];
        private int length;
        private final int[] code = new int[CODE];
        private int size;
        private int at;
        private int fault;

        LawReader() {
        }

        int length() {
            return length;
        }

        int size() {
            return size;
        }

        int codeAt(int i) {
            return i >= 0 && i < size && i < code.length ? code[i] : END;
        }

        boolean take(int letter) {
            if (length >= TAPE) {
                return false;
            }
            tape[length] = letter;
            length++;
            return true;
        }

        void empty() {
            length = 0;
        }

        /** Reads the tape as a text: its fault, or -1. */
        int read() {
            at = 0;
            size = 0;
            fault = -1;
            for (int lines = 0; lines <= TAPE && fault < 0; lines++) {
                readLine();
                if (fault >= 0 || at == length) {
                    return fault;
                }
                if (next() != ';') {
                    fault = at;
                }
                at++;
            }
            return fault;
        }

        private void readLine() {
            readLevel(0, 0);
            if (fault < 0 && next() == '?') {
                at++;
                step(TEST);
                readLevel(0, 0);
            }
            step(END);
        }

        /** Reads operands of the level above, joined by this level's signs; open are the ( ! - ahead of them. */
        private void readLevel(int level, int open) {
            if (level >= OPERANDS) {
                readOperand(open);
                return;
            }
            readLevel(level + 1, open);
            int most = level == COMPARING ? 1 : TAPE;
            for (int i = 0; i < most && fault < 0 && levelOf(next()) == level; i++) {
                int sign = next();
                at++;
                readLevel(level + 1, open);
                step(OPERATOR + sign);
            }
        }

        private void readOperand(int open) {
            int c = next();
            if (c >= '0' && c <= '9') {
                readNumber();
            } else if (c > 0 && c < 128 && NAMES.indexOf((char) c) >= 0) {
                at++;
                step(NAME + NAMES.indexOf((char) c));
            } else if ((c == '(' || c == '!' || c == '-') && open < DEEPEST) {
                at++;
                readOpened(c, open + 1);
            } else {
                fault = at;
            }
        }

        private void readOpened(int c, int open) {
            if (c != '(') {
                readOperand(open);
                step(c == '!' ? INVERT : NEGATE);
                return;
            }
            readLevel(0, open);
            if (fault < 0 && next() != ')') {
                fault = at;
            }
            at++;
        }

        private void readNumber() {
            int v = 0;
            for (int digits = 0; digits < 4 && next() >= '0' && next() <= '9'; digits++) {
                v = v * 10 + next() - '0';
                at++;
            }
            step(v);
        }

        private int next() {
            return at >= 0 && at < length && at < tape.length ? tape[at] : -1;
        }

        private void step(int op) {
            if (size < code.length) {
                code[size] = op;
                size++;
            }
        }

        private static int levelOf(int c) {
            switch (c) {
                case '|': return 0;
                case '&': return 1;
                case '<':
                case '=':
                case '>': return COMPARING;
                case '+':
                case '-': return 3;
                case '*':
                case '/':
                case '%': return 4;
                default: return -1;
            }
        }
    }

    /** Cuts in thought, on a yard of their own. */
    private static final class Winter {
        final Yard yard = new Yard();
        int made;
        int blown;
        int firstDoor;
        int firstFall;
        int marks;
        private final Law law;
        private final Lean sum = new Lean();

        Winter(Law law) {
            this.law = law;
        }

        private void begin(Yard now) {
            yard.become(now);
            made = 0;
            blown = 0;
            firstDoor = NOT;
            firstFall = NOT;
            marks = 0;
        }

        void run(Yard now, Shelf from, int n) {
            begin(now);
            for (int i = 0; i < n && i < from.length(); i++) {
                int rl = (int) from.cell(i);
                if (rl < 0 || !yard.hasRick(rl / 16) || rl % 16 >= ROOM) {
                    return;
                }
                if (yard.hasLayer(rl / 16, rl % 16)) {
                    cutOne(rl / 16, rl % 16, i);
                }
            }
        }

        private void cutOne(int rick, int layer, int i) {
            int mark = yard.number(rick, layer, MARK);
            int way = yard.number(rick, layer, WAY);
            int blows = letGo(rick, layer);
            if (firstDoor == NOT && blows >= law.door(way)) {
                firstDoor = i;
            }
            if (mark > 0) {
                marks |= 1 << mark;
            }
            if (firstFall == NOT) {
                yard.leanOf(law, rick, sum);
                firstFall = law.holds(sum) ? NOT : i;
            }
        }

        private int letGo(int rick, int layer) {
            int blows = yard.kept(law, rick, layer);
            yard.takeOut(rick, layer);
            made++;
            blown += blows;
            return blows;
        }

        /** One winter of m cuts as they are drawn; answers what z is behind it. */
        int drawOne(Yard now, int seed, int m) {
            begin(now);
            int z = seed;
            for (int i = 0; i < m; i++) {
                z = z * 1103515245 + 12345;
                int rick = yard.ricks > 0 ? (z >>> 8) % yard.ricks : 0;
                int high = yard.height(rick);
                if (high > 0) {
                    letGo(rick, (z >>> 16) % high);
                }
            }
            return z;
        }
    }

    /** Looks through orders of laying, of cutting, of selling, and turns of builder and wind, on one rick. */
    private static final class Search {
        static final int HOURS = 7, TURNS = 4;

        int found;
        int firstWay;
        private final Law law;
        private final Lean sum = new Lean();
        private final int[] numbers = new int[ROOM * 4];
        private int size;
        private boolean selling;
        // what a layer keeps with so many below and above it; -1 where it was not asked yet
        private final int[] amounts = new int[ROOM * ROOM * ROOM];
        private final int[] path = new int[ROOM];
        private final int[] best = new int[ROOM];
        // how the layers that lay already lean, by how many hours lie on them
        private final int[] baseX = new int[HOURS + 1];
        private final int[] baseY = new int[HOURS + 1];
        private final int[] turn = new int[TURNS];
        // sets of layers that lie still, as bits, in the order in which they were come to
        private final int[] queue = new int[1 << ROOM];
        // the layer whose cut led to a set, and 1; -1: it falls; 0: not come to yet
        private final int[] came = new int[1 << ROOM];

        Search(Law law) {
            this.law = law;
        }

        void begin(Yard yard, int rick, boolean oneSoldEachDay) {
            size = Math.min(yard.height(rick), ROOM);
            selling = oneSoldEachDay;
            for (int i = 0; i < size; i++) {
                for (int what = WAY; what <= AGE; what++) {
                    numbers[i * 4 + what] = yard.number(rick, i, what);
                }
            }
            Arrays.fill(amounts, -1);
        }

        void addHour(int wfm) {
            if (size < ROOM) {
                numbers[size * 4 + WAY] = wfm / 10 % 10;
                numbers[size * 4 + FORCE] = wfm / 100;
                numbers[size * 4 + MARK] = wfm % 10;
                numbers[size * 4 + AGE] = 0;
                size++;
            }
        }

        int bestAt(int k) {
            return k >= 0 && k < best.length ? best[k] : NOT;
        }

        private int number(int i, int what) {
            return i >= 0 && i < ROOM && what >= WAY && what <= AGE ? numbers[i * 4 + what] : 0;
        }

        private int amount(int i, int below, int above) {
            if (i < 0 || i >= ROOM || below < 0 || below >= ROOM || above < 0 || above >= ROOM) {
                return 0;
            }
            int place = (i * ROOM + below) * ROOM + above;
            if (amounts[place] < 0) {
                // one was sold each day, so what is gone tells the days
                int days = selling ? size - 1 - below - above : 0;
                int age = Math.min(OLDEST, number(i, AGE) + days);
                amounts[place] = law.amount(number(i, FORCE), age, number(i, MARK), below, above);
            }
            return amounts[place];
        }

        private void keepPath(int n) {
            for (int i = 0; i < n && i < ROOM; i++) {
                best[i] = path[i];
            }
        }

        // ---- orders of laying

        /** Whether the latest n hours can be laid so that the rick stands behind each; found, best: how. */
        boolean layBest(int n) {
            int base = size - n;
            for (int above = 0; above <= n && above <= HOURS; above++) {
                leanOfBase(base, above);
                baseX[above] = sum.x;
                baseY[above] = sum.y;
            }
            found = law.stand + 1;
            layNext(0, n, 0, 0);
            return found <= law.stand;
        }

        private void leanOfBase(int base, int above) {
            sum.begin(0, 0);
            for (int i = 0; i < base; i++) {
                sum.add(number(i, WAY), amount(i, i, base - 1 - i + above));
            }
        }

        private void layNext(int depth, int n, int used, int worst) {
            if (depth >= n || depth >= HOURS) {
                found = worst;
                keepPath(n);
                return;
            }
            for (int i = 0; i < n; i++) {
                if ((used >> i & 1) == 0) {
                    path[depth] = i;
                    int greatest = Math.max(worst, leanBehind(depth + 1, n));
                    // only what is better than the best goes on, so of like orders the first stays
                    if (greatest < found) {
                        layNext(depth + 1, n, used | 1 << i, greatest);
                    }
                }
            }
        }

        private int leanBehind(int laid, int n) {
            int base = size - n;
            if (laid < 0 || laid > HOURS) {
                return 0;
            }
            sum.begin(baseX[laid], baseY[laid]);
            for (int i = 0; i < laid; i++) {
                int hour = base + path[i];
                sum.add(number(hour, WAY), amount(hour, base + i, laid - 1 - i));
            }
            return sum.greater();
        }

        // ---- orders of cutting

        /** Whether cuts that leave it standing can let a mark out; found, best: the fewest. */
        boolean letOutBest(int mark) {
            int all = (1 << size) - 1;
            if (!hasMark(mark)) {
                return false;
            }
            Arrays.fill(came, 0);
            queue[0] = all;
            int tail = 1;
            // sets come in the order of their cuts, so the first that lets it out has the fewest, first cuts
            for (int head = 0; head < tail && head < queue.length; head++) {
                int set = queue[head];
                for (int i = 0; i < size; i++) {
                    int rest = set & ~(1 << i);
                    if (rest == set || !isStanding(rest)) {
                        continue;
                    }
                    if (number(i, MARK) == mark) {
                        keepCuts(all, set, i);
                        return true;
                    }
                    if (came[rest] == 0 && tail < queue.length) {
                        came[rest] = i + 1;
                        queue[tail] = rest;
                        tail++;
                    }
                }
            }
            return false;
        }

        private boolean hasMark(int mark) {
            for (int i = 0; i < size; i++) {
                if (number(i, MARK) == mark) {
                    return true;
                }
            }
            return false;
        }

        private boolean isStanding(int set) {
            if (set < 0 || set >= came.length) {
                return false;
            }
            if (came[set] == 0) {
                sum.begin(0, 0);
                int n = Integer.bitCount(set);
                int below = 0;
                for (int j = 0; j < size; j++) {
                    if ((set >> j & 1) != 0) {
                        sum.add(number(j, WAY), amount(j, below, n - 1 - below));
                        below++;
                    }
                }
                if (!law.holds(sum)) {
                    came[set] = -1;
                }
            }
            return came[set] >= 0;
        }

        /** Keeps the cuts that led from all to a set, and the last one. */
        private void keepCuts(int all, int set, int last) {
            found = size - Integer.bitCount(set) + 1;
            int cut = last;
            int then = set;
            for (int i = found - 1; i >= 0 && i < ROOM; i--) {
                best[i] = cut;
                if (then != all && then >= 0 && then < came.length) {
                    cut = came[then] - 1;
                    then |= cut >= 0 ? 1 << cut : 0;
                }
            }
        }

        // ---- selling

        void sellBest(int t) {
            found = -1;
            sellNext(0, t, (1 << size) - 1, 0);
        }

        private void sellNext(int depth, int t, int set, int paid) {
            if (depth >= t || depth >= ROOM) {
                found = paid;
                keepPath(t);
                return;
            }
            int n = Integer.bitCount(set);
            int below = 0;
            for (int i = 0; i < size; i++) {
                if ((set >> i & 1) != 0) {
                    path[depth] = i;
                    int then = paid + amount(i, below, n - 1 - below);
                    // each that is left pays 9 at most: only what may still be better goes on
                    if (then + 9 * (t - 1 - depth) > found) {
                        sellNext(depth + 1, t, set & ~(1 << i), then);
                    }
                    below++;
                }
            }
        }

        // ---- builder and wind

        void turnsBest(int n) {
            for (int i = 0; i < n && i < TURNS; i++) {
                turn[i] = law.amount(5, 0, 0, size + i, n - 1 - i);
            }
            leanOfBase(size, n);
            firstWay = 0;
            found = turnNext(0, n, sum.x, sum.y);
        }

        private int turnNext(int depth, int n, int x, int y) {
            if (depth >= n || depth >= TURNS) {
                return Math.max(Math.abs(x), Math.abs(y));
            }
            boolean builder = depth % 2 == 0;
            int chosen = -1;
            for (int way = 0; way <= 7; way++) {
                int nextX = x + turn[depth] * Lean.right(way);
                int nextY = y + turn[depth] * Lean.down(way);
                int then = turnNext(depth + 1, n, nextX, nextY);
                if (chosen < 0 || (builder ? then < chosen : then > chosen)) {
                    chosen = then;
                    firstWay = depth == 0 ? way : firstWay;
                }
            }
            return chosen;
        }
    }

    /** The latest numbers told by mend(): those done first, behind them those undone. */
    private static final class Changes {
        static final int WHAT = 0, WHOM = 1, WAS = 2, IS = 3;
        private static final int MOST = 40;

        private final int[] parts = new int[MOST * 4];
        private int done;
        private int all;

        Changes() {
        }

        int done() {
            return done;
        }

        int undone() {
            return all - done;
        }

        int part(int i, int which) {
            return i >= 0 && i < MOST && which >= WHAT && which <= IS ? parts[i * 4 + which] : 0;
        }

        void add(int what, int whom, int was, int is) {
            if (done >= MOST) {
                forgetFirst();
            }
            parts[done * 4 + WHAT] = what;
            parts[done * 4 + WHOM] = whom;
            parts[done * 4 + WAS] = was;
            parts[done * 4 + IS] = is;
            done++;
            all = done;
        }

        private void forgetFirst() {
            for (int i = 0; i + 4 < parts.length; i++) {
                parts[i] = parts[i + 4];
            }
            done = MOST - 1;
        }

        /** The number of the change that is to be undone. */
        int stepBack() {
            done = Math.max(0, done - 1);
            return done;
        }

        /** The number of the change that is to be done again. */
        int stepOn() {
            done = Math.min(all, done + 1);
            return done - 1;
        }
    }

    /** The bodies, and how their acts run: each from a kind on, upwards to the next that has a body for it. */
    private static final class Acts {
        private static final int BUILDER = 0, COW = 1, KNIFE = 2, CUCKOO = 3, LEE = 4, LADY = 5, RAKE = 6, CHILD = 7;
        private static final int[] ABOVE = {-1, BUILDER, BUILDER, KNIFE, COW, CUCKOO, BUILDER, RAKE};
        private static final int TRACED = 24;
        // the deepest act, a lady's tells, goes six deep
        private static final int DEEPEST = 16;

        private final int[] kinds = new int[BODIES];
        private int bodies;
        private final int[] ran = new int[TRACED];
        private int runs;
        private int own;
        private int number;

        Acts() {
        }

        int add(int kind) {
            if (bodies >= BODIES) {
                return FULL;
            }
            kinds[bodies] = kind;
            bodies++;
            return bodies - 1;
        }

        int bodies() {
            return bodies;
        }

        int ran() {
            return runs;
        }

        int traced(int i) {
            return i >= 0 && i < runs && i < TRACED ? ran[i] : BAD;
        }

        int kindOf(int body) {
            return body >= 0 && body < bodies && body < BODIES ? kinds[body] : BUILDER;
        }

        static boolean isUnder(int kind, int k) {
            int then = kind;
            for (int i = 0; i < ABOVE.length && then != k; i++) {
                then = then >= 0 && then < ABOVE.length ? ABOVE[then] : -1;
            }
            return then == k;
        }

        int perform(int body, int which, int x) {
            runs = 0;
            if (body < 0 || body >= bodies) {
                return 0;
            }
            own = kindOf(body);
            number = body;
            switch (which) {
                case 0: return laysFrom(own, x, 0);
                case 1: return leansFrom(own, x, 0);
                case 2: return cutsFrom(own, x, 0);
                case 3: return tellsFrom(own, x, 0);
                default: return 0;
            }
        }

        private void begins(int bodyOfAct) {
            if (runs < TRACED) {
                ran[runs] = bodyOfAct;
            }
            runs++;
        }

        private int laysFrom(int kind, int x, int depth) {
            if (depth >= DEEPEST) {
                return 0;
            }
            switch (kind) {
                case COW:
                case LEE:
                    begins(20);
                    return laysFrom(BUILDER, x, depth + 1) + 3;
                case RAKE:
                    begins(70);
                    return laysFrom(BUILDER, x, depth + 1) * 2;
                case CHILD:
                    begins(81);
                    return laysFrom(RAKE, x, depth + 1) - 1;
                default:
                    begins(1);
                    return x + number;
            }
        }

        private int leansFrom(int kind, int x, int depth) {
            if (depth >= DEEPEST) {
                return 0;
            }
            switch (kind) {
                case KNIFE:
                    begins(30);
                    return -leansFrom(BUILDER, x, depth + 1);
                case CUCKOO:
                case LADY:
                    begins(41);
                    return leansFrom(KNIFE, x + 1, depth + 1);
                case CHILD:
                    begins(80);
                    return leansFrom(RAKE, x, depth + 1) + cutsFrom(own, 2, depth + 1);
                default:
                    begins(10);
                    return laysFrom(own, x, depth + 1) * 2;
            }
        }

        private int cutsFrom(int kind, int x, int depth) {
            if (depth >= DEEPEST) {
                return 0;
            }
            switch (kind) {
                case CUCKOO:
                    begins(40);
                    return cutsFrom(KNIFE, x, depth + 1) * 3;
                case LADY:
                    begins(60);
                    return cutsFrom(CUCKOO, x, depth + 1) - laysFrom(own, 2, depth + 1);
                default:
                    begins(11);
                    return x ^ number;
            }
        }

        private int tellsFrom(int kind, int x, int depth) {
            if (depth >= DEEPEST) {
                return 0;
            }
            switch (kind) {
                case LEE:
                    begins(50);
                    return tellsFrom(COW, x, depth + 1) ^ 5;
                case LADY:
                    begins(61);
                    return tellsFrom(CUCKOO, x, depth + 1) + 1;
                default:
                    begins(2);
                    return leansFrom(own, x, depth + 1) - cutsFrom(own, 1, depth + 1);
            }
        }
    }

    /** Holds nothing, a body, or a row; its cells are made once and used by all rows. */
    private static final class Shelf {
        static final int LONGEST = 60;
        private static final int NOTHING = 0, BODY = 1, ROW = 2;

        private int holds = NOTHING;
        private int body;
        private int sort;
        private int length;
        private final long[] cells = new long[LONGEST];

        Shelf() {
        }

        boolean isEmpty() {
            return holds == NOTHING;
        }

        boolean isRow() {
            return holds == ROW;
        }

        int sort() {
            return sort;
        }

        int length() {
            return holds == ROW ? length : 0;
        }

        int heldBody() {
            return holds == BODY ? body : -1;
        }

        /** Body -1: nothing. */
        void holdBody(int which) {
            holds = which < 0 ? NOTHING : BODY;
            body = which;
        }

        void holdRow(int newSort, int n) {
            holds = ROW;
            sort = newSort;
            length = n;
            Arrays.fill(cells, 0L);
        }

        /** Why this is no row of a sort; 0: it is one. */
        int refusal(int wanted) {
            if (holds == NOTHING) {
                return MISSING;
            }
            return holds == ROW && sort == wanted ? 0 : UNLIKE;
        }

        /** Why there is no element i; 0: there is. */
        int refusalAt(int i) {
            if (holds == NOTHING) {
                return MISSING;
            }
            if (holds != ROW) {
                return UNLIKE;
            }
            return i >= 0 && i < length ? 0 : NO_PLACE;
        }

        /** Whether n places from i on are within the row. */
        boolean hasPlaces(int i, int n) {
            return i >= 0 && n >= 0 && i <= length() - n;
        }

        long cell(int i) {
            return i >= 0 && i < length() && i < LONGEST ? cells[i] : 0;
        }

        void write(int i, long v) {
            if (i >= 0 && i < length() && i < LONGEST) {
                cells[i] = lowestBits(v);
            }
        }

        private long lowestBits(long v) {
            switch (sort) {
                case BYTES: return (byte) v;
                case SHORTS: return (short) v;
                case INTS: return (int) v;
                case LONGS: return v;
                default: return v != 0 ? 1 : 0;
            }
        }

        /** Copies n cells from i on to here from j on, from the end that keeps them as they were before. */
        void copyFrom(Shelf from, int i, int j, int n) {
            for (int step = 0; step < n; step++) {
                int offset = i < j ? n - 1 - step : step;
                write(j + offset, from.cell(i + offset));
            }
        }
    }
}
