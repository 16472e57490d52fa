import java.util.function.Consumer;
import java.util.function.Supplier;

/** KINDS, MARK, THE TRACE, IMAGES, what is counted, and all that is as at first when it is read anew: at their edges. */
final class KindEdgesTest {
    private static final int BAD = -1, STATE = -2, NO = -1000000;
    private static final long[] BODIES = {1, 11, 101, 1011, 10101, 100001};

    private KindEdgesTest() {
    }

    public static void main(String[] args) {
        theConstants();
        newObject();
        upToTheLastCall();
        marksAtTheirLeast();
        marksAtTheirMost();
        marksOfEachSeeker();
        marksRefused();
        marksFromNow();
        traceOfEachKind();
        traceStays();
        traceOfAllCalls();
        marksChangeTheTraceAlone();
        imagesKeepAll();
        imagesKeepEachSeen();
        imagesKeepNothingElse();
        imagesAreTwo();
        imagesOverAndOver();
        imagesOfFirstAndLastWeek();
        imagesAreGone();
        imagesStayBehindAFault();
        countsAtTheirEdges();
        readAnew();
        readAnewLeavesTheLotAndTheTrace();
        Check.finish("KindEdgesTest");
    }

    private static void due(String call, long got, long want) {
        Check.due(call, got, want);
    }

    private static void theConstants() {
        due("BAD", FindersHide.BAD, -1);
        due("STATE", FindersHide.STATE, -2);
        due("FULL", FindersHide.FULL, -3);
        due("NONE", FindersHide.NONE, -9);
        due("NO", FindersHide.NO, -1000000);
    }

    private static void newObject() {
        Probe.same("a new object is as one that was told nothing", FindersHide::new, () -> Check.told(""));
        Probe.same("and has nothing of another", () -> {
            Setups.allFull();
            return new FindersHide();
        }, FindersHide::new);
    }

    /** An object is used for 512 calls: the last is answered as the first. */
    private static void upToTheLastCall() {
        FindersHide x = Check.told("place 1;place 1;seeker 1 0;law 1;");
        // Five calls of type and one of town went ahead.
        for (int call = 6; call < 511; call++) {
            due("found", x.looks(0, call % 2), (call + 1) % 2);
        }
        due("call 512", x.now(3), 505);
    }

    // ---- marks

    private static void marks(String what, FindersHide x, int k, int... want) {
        for (int kind = 0; kind < 6; kind++) {
            due(what + ": mark(" + kind + ", " + k + ")", x.mark(kind, k), want[kind]);
        }
    }

    private static void marksAtTheirLeast() {
        FindersHide x = Check.told("place 1;seeker 0 0 0 0 0 0;");
        marks("least", x, 0, 0, 0, -5, 0, -5, 0);
        marks("one place in his habit", Check.told("place 1;seeker 0 0;"), 0, 0, 0, -1, 0, -1, 0);
        marks("none at last", Check.told("place 1;seeker 1 0;"), 0, 1, 1, 0, 2, 0, 1);
    }

    private static void marksAtTheirMost() {
        FindersHide x = Check.told("place 1;seeker 0 0;seeker 0 0;seeker 0 0;seeker 30 0;");
        for (int w = 0; w < 99; w++) {
            x.week();
        }
        for (int i = 0; i < 300; i++) {
            x.looks(3, 0);
        }
        marks("most", x, 3, 30, 429, 29, 858, 32, 129);
        marks("another", x, 2, 0, 0, -1, 0, 1, 99);
    }

    private static void marksOfEachSeeker() {
        FindersHide x = Check.told("place 9;seeker 9 0;seeker 10 0 0;seeker 20 0 0 0;seeker 30 0 0 0 0;");
        x.looks(1, 0);
        x.looks(2, 0);
        x.looks(2, 0);
        marks("before a week", x, 0, 9, 9, 8, 18, 8, 9);
        marks("before a week", x, 1, 10, 11, 8, 22, 9, 10);
        x.week();
        marks("behind a week", x, 0, 9, 10, 8, 20, 8, 10);
        marks("behind a week", x, 1, 10, 12, 8, 24, 9, 11);
        marks("behind a week", x, 2, 20, 23, 17, 46, 19, 21);
        marks("behind a week", x, 3, 30, 31, 26, 62, 29, 31);
    }

    private static void marksRefused() {
        for (int seekers = 0; seekers <= 4; seekers++) {
            FindersHide x = Check.told("place 1;" + "seeker 7 0;".repeat(seekers));
            for (int kind = 0; kind < 6; kind++) {
                due("no such seeker", x.mark(kind, seekers), NO);
                due("below", x.mark(kind, -1), NO);
                due("far", x.mark(kind, Integer.MAX_VALUE), NO);
                due("far below", x.mark(kind, Integer.MIN_VALUE), NO);
            }
            due("no trace of it", x.trace(), 0);
            for (int k = 0; k < seekers; k++) {
                due("the last kind", x.mark(5, k), 7);
                due("one behind it", x.mark(6, k), NO);
                due("one ahead of the first", x.mark(-1, k), NO);
            }
            due("traces of the good ones", x.trace(), 100001L * seekers);
        }
    }

    private static void marksFromNow() {
        FindersHide x = Check.told("place 1;seeker 1 0;");
        x.keep(0);
        x.week();
        x.week();
        due("had twice", x.mark(1, 0), 3);
        due("week 2", x.mark(5, 0), 3);
        x.back(0);
        due("had as the image has it", x.mark(1, 0), 1);
        due("week as the image has it", x.mark(5, 0), 1);
    }

    // ---- the trace

    private static void traceOfEachKind() {
        for (int kind = 0; kind < 6; kind++) {
            FindersHide x = Check.told("place 1;seeker 7 0;seeker 8 0;");
            due("at first", x.trace(), 0);
            x.mark(kind, 0);
            due("once, kind " + kind, x.trace(), BODIES[kind]);
            x.mark(kind, 1);
            due("twice, kind " + kind, x.trace(), 2 * BODIES[kind]);
        }
    }

    private static void traceStays() {
        FindersHide x = Check.told("place 1;seeker 7 0;");
        x.keep(0);
        x.mark(3, 0);
        x.week();
        x.looks(0, 0);
        x.back(0);
        due("back", x.trace(), 1011);
        Check.type(x, "place 2;seeker 3 0;?");
        x.town();
        due("a fault", x.trace(), 1011);
        x.clear();
        due("clear", x.trace(), 1011);
        x.town();
        due("read anew: nothing", x.trace(), 1011);
        due("nobody to be marked", x.mark(0, 0), NO);
        Check.type(x, "place 2;seeker 3 0;");
        x.town();
        due("read anew", x.trace(), 1011);
        x.mark(5, 0);
        due("all together", x.trace(), 101012);
    }

    private static void traceOfAllCalls() {
        FindersHide x = Check.told("place 1;seeker 7 0;");
        long sum = 0;
        for (int i = 0; i < 480; i++) {
            x.mark(i % 6, 0);
            sum += BODIES[i % 6];
        }
        due("480 marks", x.trace(), sum);
        due("as much", x.trace(), 80L * 111226);
        FindersHide y = Check.told("place 1;seeker 7 0;");
        for (int i = 0; i < 500; i++) {
            y.mark(5, 0);
        }
        due("500 times the most", y.trace(), 50000500);
    }

    private static void marksChangeTheTraceAlone() {
        for (Setups on : Setups.all()) {
            for (int kind = 0; kind < 6; kind++) {
                int one = kind;
                Probe.sameButTheTrace(on.name + ": marked as kind " + kind, Probe.after(on.make, x -> x.mark(one, 0)), on.make);
            }
        }
    }

    // ---- images

    private static void weekMore(FindersHide x) {
        x.week();
    }

    private static void putElsewhere(FindersHide x) {
        x.puts(x.now(0) == 0 ? 1 : 0);
    }

    private static void found(FindersHide x) {
        x.looks(0, x.now(0));
    }

    private static void anotherLot(FindersHide x) {
        x.lot(-123456789);
    }

    private static void forgotten(FindersHide x) {
        x.forget();
    }

    private static void seenOtherwise(FindersHide x) {
        int many = x.forget();
        for (int i = 0; i < many; i++) {
            x.saw(0, 0, 1);
        }
    }

    /** Each part of NOW alone, and all together, is as it was. */
    private static void imagesKeepAll() {
        kept("week", KindEdgesTest::weekMore);
        kept("the ring", KindEdgesTest::putElsewhere);
        kept("had", KindEdgesTest::found);
        kept("the lot", KindEdgesTest::anotherLot);
        kept("seen", KindEdgesTest::forgotten);
        kept("what was seen", KindEdgesTest::seenOtherwise);
        kept("all", x -> {
            weekMore(x);
            found(x);
            weekMore(x);
            seenOtherwise(x);
            putElsewhere(x);
            anotherLot(x);
        });
    }

    private static void kept(String what, Consumer<FindersHide> change) {
        for (int image = 0; image < 2; image++) {
            int one = image;
            Supplier<FindersHide> keeping = Probe.after(Setups::allFull, x -> x.keep(one));
            Supplier<FindersHide> changed = Probe.after(keeping, change);
            due(what + " is changed", Probe.shown(changed).equals(Probe.shown(keeping)) ? 1 : 0, 0);
            Probe.same(what + " is as image " + image + " has it", Probe.after(changed, x -> x.back(one)), keeping);
        }
    }

    /** The WEEK, the SEEKER and whether he FOUND it, of each that was SEEN. */
    private static void imagesKeepEachSeen() {
        int[][] others = {{1, 0, 1}, {0, 1, 1}, {0, 0, 0}};
        for (int many = 1; many <= 8; many++) {
            for (int[] other : others) {
                // Told at 0 the first finds it in the first week, told at 1 the second; then nobody does.
                FindersHide x = Check.told("place 1;place 2;place 9;seeker 1 0;seeker 2 1;law 1;");
                x.week();
                x.week();
                for (int i = 1; i < many; i++) {
                    x.saw(1, 0, 0);
                }
                x.saw(0, 0, 1);
                due("seen: told at 0", x.could(0), 1);
                x.keep(0);
                x.forget();
                for (int i = 0; i < many; i++) {
                    x.saw(other[0], other[1], other[2]);
                }
                due("otherwise", x.could(0) == 1 ? 1 : 0, 0);
                x.back(0);
                due("how much was seen", x.count(2), many);
                due("seen: told at 0", x.could(0), 1);
            }
        }
    }

    private static void imagesKeepNothingElse() {
        FindersHide x = Check.told("place 1;seeker 7 0;law 1;");
        x.keep(0);
        Check.type(x, "place 2;");
        x.mark(2, 0);
        x.keep(1);
        x.back(0);
        due("the text stays", x.count(3), 8);
        due("the trace stays", x.trace(), 101);
        due("the law stays", x.now(2), 1);
        due("places stay", x.count(0), 1);
        x.clear();
        x.back(1);
        due("the text is not kept", x.count(3), 0);
    }

    private static void imagesAreTwo() {
        FindersHide x = Check.told("place 1;seeker 1 0;");
        for (int image : new int[] {-1, 2, Integer.MIN_VALUE, Integer.MAX_VALUE}) {
            due("keep(" + image + ")", x.keep(image), BAD);
            due("back(" + image + ")", x.back(image), BAD);
        }
        due("none kept", x.back(0), STATE);
        due("none kept", x.back(1), STATE);
        x.week();
        due("keep(1)", x.keep(1), 1);
        due("the other is not", x.back(0), STATE);
        x.week();
        due("keep(0)", x.keep(0), 2);
        x.week();
        due("back(1)", x.back(1), 1);
        due("week", x.now(1), 1);
        due("back(0)", x.back(0), 2);
        due("week", x.now(1), 2);
    }

    private static void imagesOverAndOver() {
        FindersHide x = Check.told("place 1;seeker 1 0;");
        for (int w = 0; w < 5; w++) {
            due("kept anew", x.keep(0), w);
            x.week();
            due("the newest", x.back(0), w);
            due("once more", x.back(0), w);
            x.week();
            due("week", x.now(1), w + 1);
        }
        due("kept in both", x.keep(1), 5);
        due("the other", x.back(0), 4);
        due("kept from the other", x.keep(1), 4);
        x.week();
        due("which is the same", x.back(1), 4);
        due("had", x.now(3), 4);
    }

    private static void imagesOfFirstAndLastWeek() {
        FindersHide none = new FindersHide();
        due("of nothing", none.keep(1), 0);
        due("back to nothing", none.back(1), 0);
        due("nowhere", none.now(0), -9);
        due("a lot", none.lot(9), 1);
        due("back to nothing", none.back(1), 0);
        due("the lot of nothing", none.lot(9), 1);
        FindersHide x = Check.told("place 1;seeker 1 0;");
        due("week 0", x.keep(0), 0);
        for (int w = 0; w < 99; w++) {
            x.week();
        }
        due("week 99", x.keep(1), 99);
        due("back to week 0", x.back(0), 0);
        due("a week", x.week(), 1);
        due("week", x.now(1), 1);
        due("on to week 99", x.back(1), 99);
        due("no week", x.week(), STATE);
    }

    private static void imagesAreGone() {
        String[] texts = {"", "  ", "law 0;", "place 1;seeker 1 0;"};
        for (String text : texts) {
            FindersHide x = Setups.allFull();
            x.clear();
            Check.type(x, text);
            due("read", x.town() >= 0 ? 1 : 0, 1);
            due("gone", x.back(0), STATE);
            due("gone", x.back(1), STATE);
            due("kept again", x.keep(1), 0);
            due("gone still", x.back(0), STATE);
            due("back", x.back(1), 0);
        }
    }

    private static void imagesStayBehindAFault() {
        FindersHide x = Setups.allFull();
        due("a fault", x.town(), -210);
        due("there", x.back(0), 1);
        due("there", x.back(1), 2);
        due("clear", x.clear(), 200);
        due("there", x.back(0), 1);
    }

    // ---- counts, read anew

    private static void countsAtTheirEdges() {
        FindersHide none = new FindersHide();
        FindersHide all = Setups.allFull();
        int[] most = {6, 4, 8, 200};
        for (int what = 0; what < 4; what++) {
            due("none: count(" + what + ")", none.count(what), 0);
            due("all: count(" + what + ")", all.count(what), most[what]);
        }
        due("count(4)", all.count(4), BAD);
        due("count(-1)", all.count(-1), BAD);
    }

    /** Whatever was before: behind a text that is read all but THE TRACE is as if it were the first. */
    private static void readAnew() {
        String[] texts = {"", "law 1;", "place 4;", "place 1;place 1;seeker 9 1 0;", "place 2;place 9;place 2;seeker 3 2;ring 1;",
            "place 1;place 2;place 3;place 4;place 5;place 6;seeker 30 5;seeker 9 0 1 2;law 2;ring 3;"};
        for (Setups before : Setups.all()) {
            for (String text : texts) {
                Probe.sameButTheTrace("'" + text + "' behind " + before.name, Probe.after(before.make, x -> {
                    x.clear();
                    Check.type(x, text);
                    x.town();
                    x.lot(1);
                }), () -> Check.told(text));
                Probe.sameButTheTrace("'" + text + "' behind '' behind " + before.name, Probe.after(before.make, x -> {
                    x.clear();
                    x.town();
                    Check.type(x, text);
                    x.town();
                    x.lot(1);
                }), () -> Check.told(text));
            }
        }
    }

    private static void readAnewLeavesTheLotAndTheTrace() {
        FindersHide x = Setups.allFullAndMarked();
        long trace = x.trace();
        int lot = x.lot(4321);
        due("a lot of its own", lot == 12345 ? 1 : 0, 0);
        x.clear();
        due("read", x.town(), 0);
        due("the lot stays", x.lot(-7), 4321);
        due("a trace of its own", trace, 10101 + 1011);
        due("the trace stays", x.trace(), trace);
        Check.type(x, "place 1;place 1;seeker 1 0;law 2;");
        due("read", x.town(), 4);
        due("the lot stays", x.lot(8), -7);
        due("found", x.week(), 1);
        due("and goes on", x.lot(1), (int) (8L * 1103515245L + 12345L));
    }
}
