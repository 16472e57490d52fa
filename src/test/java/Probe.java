import java.util.function.Consumer;
import java.util.function.Supplier;
import java.util.function.ToLongFunction;

/** All that an object shows, and what it would show after some further calls: to see that a call changes nothing. */
final class Probe {
    private static final int VIEWS = 8;

    private Probe() {
    }

    /** Each view is taken of an object of its own, as some of them change it and 512 calls are all that one has. */
    static String shown(Supplier<FindersHide> setup) {
        StringBuilder out = new StringBuilder();
        for (int view = 0; view < VIEWS; view++) {
            FindersHide x = setup.get();
            out.append("view ").append(view).append(':');
            goOn(x, view, out);
            all(x, view == 0, out);
            out.append('\n');
        }
        return out.toString();
    }

    static void same(String what, Supplier<FindersHide> got, Supplier<FindersHide> want) {
        alike(what, shown(got), shown(want));
    }

    static void sameButTheTrace(String what, Supplier<FindersHide> got, Supplier<FindersHide> want) {
        alike(what, shown(got).replaceAll("trace \\d+", ""), shown(want).replaceAll("trace \\d+", ""));
    }

    private static void alike(String what, String shownByGot, String shownByWant) {
        boolean alike = shownByGot.equals(shownByWant);
        Check.due(what + ": all is as it should be", alike ? 1 : 0, 1);
        if (!alike) {
            System.out.println("shown:\n" + shownByGot + "due:\n" + shownByWant);
        }
    }

    /** A call answers what is due, and nothing changes by it. */
    static void changesNothing(String what, Supplier<FindersHide> setup, ToLongFunction<FindersHide> call, long want) {
        Check.due(what, call.applyAsLong(setup.get()), want);
        same(what, after(setup, x -> call.applyAsLong(x)), setup);
    }

    static Supplier<FindersHide> after(Supplier<FindersHide> setup, Consumer<FindersHide> calls) {
        return () -> {
            FindersHide x = setup.get();
            calls.accept(x);
            return x;
        };
    }

    private static void goOn(FindersHide x, int view, StringBuilder out) {
        switch (view) {
            case 1: out.append(x.back(0)); break;
            case 2: out.append(x.back(1)); break;
            case 3: out.append(x.town()); break;
            case 4: out.append(x.type(0x3bL, 1)).append(x.town()); break;
            case 5: out.append(x.week()).append(x.week()).append(x.week()); break;
            case 6: allMarks(x, out); break;
            case 7: allLooks(x, out); break;
            default: break;
        }
    }

    private static void allMarks(FindersHide x, StringBuilder out) {
        for (int k = 0; k < 4; k++) {
            for (int kind = 0; kind < 6; kind++) {
                out.append(x.mark(kind, k)).append(' ');
            }
        }
    }

    private static void allLooks(FindersHide x, StringBuilder out) {
        for (int p = 0; p < 6; p++) {
            out.append(x.looks(p % 2, p)).append(' ');
        }
    }

    private static void all(FindersHide x, boolean odds, StringBuilder out) {
        for (int what = 0; what < 4; what++) {
            out.append(' ').append(x.count(what)).append(' ').append(x.now(what));
        }
        for (int p = 0; p < 6; p++) {
            ofPlace(x, p, odds, out);
        }
        for (int k = 0; k < 4; k++) {
            ofSeeker(x, k, out);
        }
        out.append(" all ").append(x.longest()).append(' ').append(x.could(0)).append(' ').append(x.could(1));
        out.append(' ').append(x.sweep(0)).append(' ').append(x.sweep(1)).append(' ').append(x.sweep(2));
        out.append(" lot ").append(x.lot(0)).append(" seen ").append(x.forget()).append(" trace ").append(x.trace());
    }

    private static void ofPlace(FindersHide x, int p, boolean odds, StringBuilder out) {
        out.append(" place ").append(x.place(p, 0)).append(' ').append(x.place(p, 1)).append(' ').append(x.place(p, 2));
        out.append(' ').append(x.lies(p)).append(' ').append(x.order(p));
        for (int what = 0; what < 4; what++) {
            out.append(' ').append(x.lots(p, what));
        }
        for (int n = 0; odds && n < 3; n++) {
            out.append(' ').append(x.odds(n, p, 0)).append('/').append(x.odds(n, p, 1));
        }
    }

    private static void ofSeeker(FindersHide x, int k, StringBuilder out) {
        out.append(" seeker");
        for (int what = 0; what < 4; what++) {
            out.append(' ').append(x.seeker(k, what));
        }
        for (int i = 0; i < 6; i++) {
            out.append(' ').append(x.habit(k, i));
        }
    }
}
