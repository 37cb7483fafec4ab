import java.util.ArrayList;
import java.util.List;

/** The kinds of bodies, as the document tells them, in Java's own classes. */
final class Kinds {
    private Kinds() {
    }

    static Builder make(int kind, int number) {
        Builder[] all = {new Builder(), new Cow(), new Knife(), new Cuckoo(), new Lee(), new Lady(), new Rake(), new Child()};
        all[kind].n = number;
        return all[kind];
    }

    static class Builder {
        final List<Integer> ran = new ArrayList<>();
        int n;

        int lays(int x) { ran.add(1); return x + n; }
        int leans(int x) { ran.add(10); return lays(x) * 2; }
        int cuts(int x) { ran.add(11); return x ^ n; }
        int tells(int x) { ran.add(2); return leans(x) - cuts(1); }

        int perform(int act, int x) {
            ran.clear();
            return act == 0 ? lays(x) : act == 1 ? leans(x) : act == 2 ? cuts(x) : tells(x);
        }
    }

    private static class Cow extends Builder {
        int lays(int x) { ran.add(20); return super.lays(x) + 3; }
    }

    private static class Knife extends Builder {
        int leans(int x) { ran.add(30); return -super.leans(x); }
    }

    private static class Cuckoo extends Knife {
        int cuts(int x) { ran.add(40); return super.cuts(x) * 3; }
        int leans(int x) { ran.add(41); return super.leans(x + 1); }
    }

    private static class Lee extends Cow {
        int tells(int x) { ran.add(50); return super.tells(x) ^ 5; }
    }

    private static class Lady extends Cuckoo {
        int cuts(int x) { ran.add(60); return super.cuts(x) - lays(2); }
        int tells(int x) { ran.add(61); return super.tells(x) + 1; }
    }

    private static class Rake extends Builder {
        int lays(int x) { ran.add(70); return super.lays(x) * 2; }
    }

    private static class Child extends Rake {
        int leans(int x) { ran.add(80); return super.leans(x) + cuts(2); }
        int lays(int x) { ran.add(81); return super.lays(x) - 1; }
    }
}
