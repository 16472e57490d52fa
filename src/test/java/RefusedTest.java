import java.util.Arrays;
import java.util.List;
import java.util.function.ToLongFunction;

/** Each way in which a call is refused, in the order that the document gives, and that nothing changes by it. */
final class RefusedTest {
    private static final int BAD = -1, STATE = -2, FULL = -3, NO = -1000000;
    private static final int[] FAR_OUT = {Integer.MIN_VALUE, Integer.MIN_VALUE + 1, -256, -2, -1, 31, 32, 33, 64, 256, 65536,
        1 << 30, Integer.MAX_VALUE};

    private final Setups on;

    private RefusedTest(Setups on) {
        this.on = on;
    }

    public static void main(String[] args) {
        List<Setups> all = Setups.all();
        for (Setups on : all) {
            RefusedTest t = new RefusedTest(on);
            t.oneNumber();
            t.twoNumbers();
            t.typeBad();
            t.oddsBad();
            t.sawBad();
            t.asked();
        }
        weekState();
        backState();
        badAheadOfState();
        typeFull();
        sawFull();
        badAheadOfFull();
        townFault();
        Check.finish("RefusedTest");
    }

    /** Numbers that are none of 0 .. many - 1: those just beyond, and some far out. */
    private static int[] beyond(int many) {
        int[] l = Arrays.copyOf(FAR_OUT, FAR_OUT.length + 2);
        l[FAR_OUT.length] = many;
        l[FAR_OUT.length + 1] = many + 1;
        return Arrays.stream(l).filter(v -> v < 0 || v >= many).toArray();
    }

    /** The first and the last of 0 .. many - 1; if there are none, what would be the first. */
    private static int[] within(int many) {
        return many < 2 ? new int[] {0} : new int[] {0, many - 1};
    }

    private void refused(String call, ToLongFunction<FindersHide> f, long want) {
        Probe.changesNothing(on.name + ": " + call, on.make, f, want);
    }

    private void oneNumber() {
        for (int p : beyond(on.places)) {
            refused("puts(" + p + ")", x -> x.puts(p), BAD);
            refused("lies(" + p + ")", x -> x.lies(p), BAD);
        }
        for (int what : beyond(4)) {
            refused("now(" + what + ")", x -> x.now(what), BAD);
            refused("count(" + what + ")", x -> x.count(what), BAD);
        }
        for (int what : beyond(3)) {
            refused("sweep(" + what + ")", x -> x.sweep(what), BAD);
        }
        for (int what : beyond(2)) {
            refused("could(" + what + ")", x -> x.could(what), BAD);
            refused("keep(" + what + ")", x -> x.keep(what), BAD);
            refused("back(" + what + ")", x -> x.back(what), BAD);
        }
        for (int i : new int[] {-1, -2, -256, Integer.MIN_VALUE}) {
            refused("order(" + i + ")", x -> x.order(i), BAD);
        }
        for (int i : new int[] {on.places, on.places + 1, 6, 7, 32, Integer.MAX_VALUE}) {
            refused("order(" + i + ")", x -> x.order(i), -5);
        }
    }

    private interface Two {
        long ask(FindersHide x, int a, int b);
    }

    /** Of two numbers the one, the other and both are beyond. */
    private void two(String name, int manyA, int manyB, long want, Two f) {
        for (int a : beyond(manyA)) {
            for (int b : within(manyB)) {
                refused(name + "(" + a + ", " + b + ")", x -> f.ask(x, a, b), want);
            }
            for (int b : new int[] {-1, manyB}) {
                refused(name + "(" + a + ", " + b + ")", x -> f.ask(x, a, b), want);
            }
        }
        for (int b : beyond(manyB)) {
            for (int a : within(manyA)) {
                refused(name + "(" + a + ", " + b + ")", x -> f.ask(x, a, b), want);
            }
        }
    }

    private void twoNumbers() {
        two("place", on.places, 3, BAD, (x, a, b) -> x.place(a, b));
        two("seeker", on.seekers, 4, BAD, (x, a, b) -> x.seeker(a, b));
        two("looks", on.seekers, on.places, BAD, (x, a, b) -> x.looks(a, b));
        two("lots", on.places, 4, BAD, (x, a, b) -> x.lots(a, b));
        two("mark", 6, on.seekers, NO, (x, a, b) -> x.mark(a, b));
        for (int k : beyond(on.seekers)) {
            for (int i : new int[] {Integer.MIN_VALUE, -1, 0, 4, 5, Integer.MAX_VALUE}) {
                refused("habit(" + k + ", " + i + ")", x -> x.habit(k, i), BAD);
            }
        }
        for (int k = 0; k < on.seekers; k++) {
            int one = k;
            for (int i : new int[] {-1, -5, -256, Integer.MIN_VALUE}) {
                refused("habit(" + k + ", " + i + ")", x -> x.habit(one, i), BAD);
            }
            int length = on.make.get().seeker(k, 1);
            for (int i : new int[] {length, 5, 6, 32, Integer.MAX_VALUE}) {
                refused("habit(" + k + ", " + i + ")", x -> x.habit(one, i), -5);
            }
        }
    }

    private void typeBad() {
        for (long v : new long[] {0L, 0x3bL, -1L, Long.MIN_VALUE}) {
            for (int n : new int[] {0, -1, -8, 9, 10, 16, 64, 200, 201, 256 + 1, Integer.MIN_VALUE, Integer.MAX_VALUE}) {
                refused("type(" + v + ", " + n + ")", x -> x.type(v, n), BAD);
            }
        }
    }

    private void oddsBad() {
        for (int n : beyond(3)) {
            for (int p : within(on.places)) {
                refused("odds(" + n + ", " + p + ", 0)", x -> x.odds(n, p, 0), BAD);
                refused("odds(" + n + ", " + p + ", 1)", x -> x.odds(n, p, 1), BAD);
            }
        }
        for (int n = 0; n < 3; n++) {
            int weeks = n;
            for (int p : beyond(on.places)) {
                refused("odds(" + n + ", " + p + ", 0)", x -> x.odds(weeks, p, 0), BAD);
                refused("odds(" + n + ", " + p + ", 1)", x -> x.odds(weeks, p, 1), BAD);
            }
            for (int what : beyond(2)) {
                refused("odds(" + n + ", 0, " + what + ")", x -> x.odds(weeks, 0, what), BAD);
            }
        }
    }

    private void sawBad() {
        for (int week : beyond(on.week)) {
            for (int k : within(on.seekers)) {
                refused("saw(" + week + ", " + k + ", 0)", x -> x.saw(week, k, 0), BAD);
                refused("saw(" + week + ", " + k + ", 1)", x -> x.saw(week, k, 1), BAD);
            }
        }
        for (int week : within(on.week)) {
            for (int k : beyond(on.seekers)) {
                refused("saw(" + week + ", " + k + ", 1)", x -> x.saw(week, k, 1), BAD);
            }
            for (int found : beyond(2)) {
                refused("saw(" + week + ", 0, " + found + ")", x -> x.saw(week, 0, found), BAD);
            }
        }
    }

    /** What is only asked changes nothing, though it is not refused. */
    private void asked() {
        FindersHide y = on.make.get();
        for (int a = 0; a < 4; a++) {
            int what = a;
            refused("now(" + a + ")", x -> x.now(what), y.now(what));
            refused("count(" + a + ")", x -> x.count(what), y.count(what));
        }
        for (int p = 0; p < on.places; p++) {
            int at = p;
            refused("lies(" + p + ")", x -> x.lies(at), y.lies(at));
            refused("place(" + p + ", 2)", x -> x.place(at, 2), y.place(at, 2));
            refused("lots(" + p + ", 0)", x -> x.lots(at, 0), y.lots(at, 0));
            refused("order(" + p + ")", x -> x.order(at), y.order(at));
            for (int n = 0; n < 3; n++) {
                int weeks = n;
                refused("odds(" + n + ", " + p + ", 0)", x -> x.odds(weeks, at, 0), y.odds(weeks, at, 0));
            }
        }
        refused("longest()", x -> x.longest(), y.longest());
        refused("could(0)", x -> x.could(0), y.could(0));
        refused("could(1)", x -> x.could(1), y.could(1));
        refused("sweep(1)", x -> x.sweep(1), y.sweep(1));
        refused("trace()", x -> x.trace(), y.trace());
    }

    private static void weekState() {
        Probe.changesNothing("no place", FindersHide::new, x -> x.week(), STATE);
        Probe.changesNothing("no place, typed", Setups::onlyTyped, x -> x.week(), STATE);
        Probe.changesNothing("a law alone", () -> Check.told("law 2;"), x -> x.week(), STATE);
        Probe.changesNothing("week 99", Setups::lastWeek, x -> x.week(), STATE);
    }

    private static void backState() {
        for (int image = 0; image < 2; image++) {
            int one = image;
            Probe.changesNothing("back(" + image + "), none kept", FindersHide::new, x -> x.back(one), STATE);
            Probe.changesNothing("the other kept",
                Probe.after(Setups::allFull, x -> {
                    x.clear();
                    x.town();
                    Check.type(x, "place 1;seeker 1 0;");
                    x.town();
                    x.keep(1 - one);
                    x.week();
                }), x -> x.back(one), STATE);
        }
    }

    private static void badAheadOfState() {
        for (int image : new int[] {-1, 2, Integer.MIN_VALUE, Integer.MAX_VALUE}) {
            Probe.changesNothing("back(" + image + "), none kept", FindersHide::new, x -> x.back(image), BAD);
        }
    }

    /** THE TEXT has room for n bytes less one. */
    private static void typeFull() {
        for (int bytes = 1; bytes <= 8; bytes++) {
            int n = bytes;
            for (int room = 0; room < n; room++) {
                String text = " ".repeat(200 - room);
                Probe.changesNothing(n + " bytes, room for " + room, () -> {
                    FindersHide x = Check.told("place 2;place 3;seeker 5 0;");
                    Check.type(x, text);
                    return x;
                }, x -> x.type(0x2020202020202020L, n), FULL);
            }
        }
    }

    private static void sawFull() {
        for (int week = 0; week < 3; week++) {
            int one = week;
            Probe.changesNothing("a ninth", Setups::allFull, x -> x.saw(one, 3, 1), FULL);
            Probe.changesNothing("a ninth", Setups::allFull, x -> x.saw(one, 0, 0), FULL);
        }
    }

    private static void badAheadOfFull() {
        for (int n : new int[] {0, 9, -1}) {
            Probe.changesNothing("type(.., " + n + ") in a full text", Setups::allFull, x -> x.type(0x3bL, n), BAD);
        }
        Probe.changesNothing("week to come, eight seen", Setups::allFull, x -> x.saw(3, 0, 0), BAD);
        Probe.changesNothing("week below, eight seen", Setups::allFull, x -> x.saw(-1, 0, 0), BAD);
        Probe.changesNothing("no such seeker, eight seen", Setups::allFull, x -> x.saw(0, 4, 0), BAD);
        Probe.changesNothing("seeker below, eight seen", Setups::allFull, x -> x.saw(0, -1, 0), BAD);
        Probe.changesNothing("found 2, eight seen", Setups::allFull, x -> x.saw(0, 0, 2), BAD);
        Probe.changesNothing("found -1, eight seen", Setups::allFull, x -> x.saw(0, 0, -1), BAD);
    }

    /** A text that can't be read changes nothing, and stays itself: wherever its fault is, whatever it told till then. */
    private static void townFault() {
        Probe.changesNothing("a full text", Setups::allFull, x -> x.town(), -210);
        Probe.changesNothing("the first text of all", Setups::onlyTyped, x -> x.town(), -25);
        String[] texts = {";", "place", "place 7;place 7;place 0;", "place 1;seeker 9 0;ring 0;law 2;law 2;", "law 1;ring 0;",
            "place 1;seeker 2 0 0 0 0 0 0;", "place 1;place 1;ring 1;ring 1;", "place 1;seeker 30 0;seeker 31 0;", "\u00ff"};
        int[] faults = {0, 5, 22, 32, 11, 27, 23, 27, 0};
        for (int i = 0; i < texts.length; i++) {
            String text = texts[i];
            Probe.changesNothing("fault of '" + text + "'",
                Probe.after(Setups::oneOfEach, x -> Check.type(x, text)), x -> x.town(), -10 - faults[i]);
        }
    }
}
