/**
 * All that can be seen of a yard, in parts: what is seen of one part may change the others, so each is looked at on a
 * yard of its own, and no yard gets more calls than the document allows.
 */
final class Look {
    static final int PARTS = 4;
    private final HayRemembers x;
    private final StringBuilder seen = new StringBuilder();

    private Look(HayRemembers x) {
        this.x = x;
    }

    static String at(HayRemembers x, int part) {
        Look look = new Look(x);
        switch (part) {
            case 0: look.ricks(); break;
            case 1: look.numbers(); break;
            case 2: look.shelves(); break;
            default:
                look.add("back", x.back());
                look.ricks();
        }
        return look.seen.toString();
    }

    private void add(String what, long answer) {
        seen.append(what).append(' ').append(answer).append('\n');
    }

    private void ricks() {
        add("DAY", x.of(0, 6));
        for (int what = 0; what <= 4; what++) {
            add("led", x.led(what));
        }
        for (int rick = 0; rick <= 3; rick++) {
            int high = x.of(rick, 8);
            add("layers", high);
            for (int i = 0; i < high; i++) {
                for (int what = 0; what <= 3; what++) {
                    add("of " + (16 * rick + i), x.of(16 * rick + i, what));
                }
            }
        }
    }

    private void numbers() {
        for (int what = 0; what <= 5; what++) {
            add("count", x.count(what));
        }
        for (int i = 0; i <= 10; i++) {
            add("trace", x.trace(i));
        }
        changing();
        int undos = x.count(3);
        for (int i = 0; i < undos; i++) {
            add("undo", x.undo());
            add("X", x.lean(i % 4, 0));
        }
        changing();
        int redo = 1;
        for (int i = 0; i < 40 && redo > 0; i++) {
            redo = x.redo();
            add("redo", redo);
        }
        changing();
        add("law", x.law());
        for (int rick = 0; rick <= 3; rick++) {
            add("keeps", x.keeps(16 * rick));
        }
        add("body", x.body(3));
        add("image", x.back());
    }

    /** The numbers that mend() changes, but those of most layers. */
    private void changing() {
        for (int what = 4; what <= 6; what++) {
            add("of", x.of(0, what));
        }
        for (int way = 0; way <= 7; way++) {
            add("door", x.of(way, 7));
        }
        for (int rick = 0; rick <= 3; rick++) {
            add("X", x.lean(rick, 0));
            add("Y", x.lean(rick, 1));
            add("keeps", x.keeps(16 * rick + 1));
        }
    }

    private void shelves() {
        for (int shelf = 0; shelf <= 5; shelf++) {
            add("taken", x.taken(shelf, 0));
            add("put", x.put(shelf, 60, 1));
            long v = 0;
            for (int i = 0; i <= 60 && v != Long.MIN_VALUE; i++) {
                v = x.element(shelf, i);
                add("element", v);
            }
        }
    }
}
