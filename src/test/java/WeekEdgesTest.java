/** Who FINDS HIDES, by each LAW; WEEKS, MINUTES, HABITS and LOOKS at their edges. */
final class WeekEdgesTest {
    private static final int STATE = -2, NONE = -9;
    private static final String[] LAWS = {"law 0;", "law 1;", "law 2;"};

    private WeekEdgesTest() {
    }

    public static void main(String[] args) {
        noWorseByHard();
        nearAndFarOfSeveral();
        lotByItsUpperBits();
        lotGoesOnWithEachFind();
        lotOfPlacesApart();
        lotWraps();
        usedUp();
        minutesAndRounds();
        foundWithJustEnough();
        eachPlaceCosts();
        whatIsTooHardIsNotPassedBy();
        minutesAreNotKept();
        looksNoMore();
        onFromWhereItStopped();
        seekerBySeeker();
        weeksFrom0To99();
        noPlace();
        looksWhateverTheMinutes();
        looksLeaveTheHabit();
        looksOfEach();
        putsToEach();
        nowAtItsEdges();
        lotBecomesWhatever();
        Check.finish("WeekEdgesTest");
    }

    private static void due(String call, long got, long want) {
        Check.due(call, got, want);
    }

    // ---- hiding

    /** No less HARD: all pairs. */
    private static void noWorseByHard() {
        for (int a = 1; a <= 9; a++) {
            for (int b = 1; b <= 9; b++) {
                for (String law : LAWS) {
                    String text = Check.places(a, b) + "seeker 0 0;" + law;
                    FindersHide x = Check.told(text);
                    due(text + " no worse than 0", x.place(0, 2), b >= a ? 2 : 0);
                    due(text + " used up: 0", x.place(0, 1), b >= a ? 0 : 1);
                    due(text + " no worse than 1", x.place(1, 2), a >= b ? 1 : 0);
                    due(text + " used up: 1", x.place(1, 1), a >= b ? 0 : 1);
                    due(text + " found at 0", x.looks(0, 0), b >= a ? 1 : 0);
                    x.puts(1);
                    due(text + " found at 1", x.looks(0, 1), a >= b ? 0 : 1);
                    due(text + " had", x.now(3), 2);
                }
            }
        }
    }

    private static void nearAndFarOfSeveral() {
        nearAndFar(new int[] {5, 9, 5, 7, 5, 9}, new int[] {2, 5, 0, 1, 0, 1}, new int[] {1, 5, 1, 1, 1, 1});
        nearAndFar(new int[] {1, 1, 1, 1, 1, 1}, new int[] {1, 0, 0, 0, 0, 0}, new int[] {1, 0, 0, 0, 0, 0});
        nearAndFar(new int[] {9, 8, 7, 6, 5, 4}, new int[] {0, 0, 1, 2, 3, 4}, new int[] {0, 0, 0, 0, 0, 0});
        nearAndFar(new int[] {4, 5, 6, 7, 8, 9}, new int[] {1, 2, 3, 4, 5, 5}, new int[] {5, 5, 5, 5, 5, 5});
        nearAndFar(new int[] {3, 2, 9, 2, 9, 3}, new int[] {5, 3, 4, 1, 2, 0}, new int[] {2, 2, 4, 2, 2, 2});
        nearAndFar(new int[] {7}, new int[] {0}, new int[] {0});
    }

    private static void nearAndFar(int[] hard, int[] near, int[] far) {
        for (int p = 0; p < hard.length; p++) {
            String text = Check.places(hard) + "seeker 0 0;ring " + p + ";";
            due(text + " near", Check.told(text).looks(0, p), near[p]);
            due(text + " far", Check.told(text + "law 1;").looks(0, p), far[p]);
        }
    }

    /** THE LOT of which the next is this. */
    private static int lotAhead(int next) {
        // Each step doubles how many of the lowest bits of the inverse are right.
        int inverse = 1103515245;
        for (int step = 0; step < 5; step++) {
            inverse *= 2 - 1103515245 * inverse;
        }
        return (next - 12345) * inverse;
    }

    /** The upper 16 bits are 0, 1, .., those with the sign, all: left over by 1 to 5. */
    private static void lotByItsUpperBits() {
        int[] nexts = {0, 65535, 65536, 0x0001ffff, 0x00020000, 0x0003ffff, 0x00040000, 0x00050000, 0x7fffffff, 0x80000000,
            0x8000ffff, 0x80010000, 0xfffeffff, 0xffff0000, 0xffffffff, 0xfffb0001, 0x7fff0000};
        for (int next : nexts) {
            for (int many = 1; many <= 5; many++) {
                for (int ring = 0; ring <= many; ring++) {
                    String text = "place 4;".repeat(many + 1) + "seeker 0 0;law 2;";
                    FindersHide x = Check.told(text);
                    x.puts(ring);
                    x.lot(lotAhead(next));
                    long upper = (next & 0xffffffffL) / 65536;
                    int draw = (int) (upper % many);
                    due(text + " from " + ring + " by " + next, x.looks(0, ring), draw < ring ? draw : draw + 1);
                    due("the lot went on once", x.lot(0), next);
                }
            }
        }
    }

    private static void lotGoesOnWithEachFind() {
        FindersHide x = Check.told(Check.places(1, 1) + "seeker 1 0;seeker 1 1;seeker 1 0;seeker 1 1;law 2;");
        due("four find it", x.week(), 4);
        int lot = 1;
        for (int i = 0; i < 4; i++) {
            lot = lot * 1103515245 + 12345;
        }
        due("the lot went on four times, though there was but one place each time", x.lot(lot), lot);
        x.puts(0);
        x.puts(1);
        due("not by puts", x.lot(lot), lot);
        x.looks(0, 0);
        due("not by a look that found nothing", x.lot(lot), lot);
        for (String law : new String[] {"law 0;", "law 1;", ""}) {
            FindersHide y = Check.told(Check.places(1, 1) + "seeker 1 0;" + law);
            due("found", y.week(), 1);
            due("found", y.looks(0, 1), 0);
            due("not by another law", y.lot(0), 1);
        }
    }

    private static void lotOfPlacesApart() {
        int[] want = {2, 4, 5};
        for (int draw = 0; draw < 3; draw++) {
            FindersHide x = Check.told(Check.places(5, 1, 9, 4, 5, 6) + "seeker 0 0;law 2;");
            due("no worse", x.place(0, 2), 4 + 16 + 32);
            x.lot(lotAhead(draw << 16));
            due("that of this number: " + draw, x.looks(0, 0), want[draw]);
        }
    }

    private static void lotWraps() {
        int[] lots = {0, 1, -1, 2, Integer.MAX_VALUE, Integer.MIN_VALUE, 1 << 30, 65536, -65536};
        for (int lot : lots) {
            FindersHide x = Check.told(Check.places(1, 1, 1, 1) + "seeker 0 0;law 2;");
            x.lot(lot);
            long next = (((long) lot * 1103515245L + 12345L) % 4294967296L + 4294967296L) % 4294967296L;
            due("behind lot " + lot, x.looks(0, 0), 1 + next / 65536 % 3);
            due("the lot behind " + lot, x.lot(0), (int) next);
        }
    }

    private static void usedUp() {
        for (String law : LAWS) {
            FindersHide x = Check.told(Check.places(8, 9, 8) + "seeker 9 1;seeker 9 1;ring 1;" + law);
            due("used up", x.place(1, 1), 1);
            due("no worse", x.place(1, 2), 0);
            due("both find it", x.week(), 2);
            due("it stays", x.now(0), 1);
            due("found by a look", x.looks(1, 1), 1);
            due("had", x.seeker(1, 3), 2);
            due("had by all", x.now(3), 3);
            due("the lot stays", x.lot(1), 1);
            due("used up still", x.place(1, 1), 1);
            due("as hard as another: not used up", x.place(0, 1), 0);
            FindersHide one = Check.told("place 1;seeker 1 0;seeker 1 0;seeker 1 0;seeker 1 0;" + law);
            due("one place, all four", one.week(), 4);
            due("it stays", one.now(0), 0);
        }
    }

    // ---- a week

    /** As many looks as the MINUTES are worth, round and round; two weeks. */
    private static void minutesAndRounds() {
        for (int hard = 1; hard <= 9; hard++) {
            for (int minutes = 0; minutes <= 30; minutes++) {
                for (int length = 1; length <= 5; length++) {
                    String text = Check.places(hard, 9) + "seeker " + minutes + " 0".repeat(length) + ";ring 1;";
                    FindersHide x = Check.told(text);
                    int looks = minutes / hard;
                    due(text + " found", x.week(), 0);
                    due(text + " next", x.seeker(0, 2), looks % length);
                    x.week();
                    due(text + " next behind two", x.seeker(0, 2), 2 * looks % length);
                    x.puts(0);
                    due(text + " ring there", x.week(), looks > 0 ? 1 : 0);
                    due(text + " next behind the find", x.seeker(0, 2), (2 * looks + (looks > 0 ? 1 : 0)) % length);
                }
            }
        }
    }

    private static void foundWithJustEnough() {
        String front = Check.places(4, 5);
        FindersHide x = Check.told(front + "seeker 9 0 1;ring 1;");
        due("nine are enough", x.week(), 1);
        due("round", x.seeker(0, 2), 0);
        FindersHide y = Check.told(front + "seeker 8 0 1;ring 1;");
        due("eight are not", y.week(), 0);
        due("he waits ahead of it", y.seeker(0, 2), 1);
        due("next week they are", y.week(), 1);
        due("next week round", y.seeker(0, 2), 0);
        FindersHide z = Check.told("place 1;seeker 0 0;");
        due("no minutes", z.week(), 0);
        due("no look", z.seeker(0, 2), 0);
    }

    private static void eachPlaceCosts() {
        int[] minutes = {1, 2, 4, 5, 8, 9, 10, 11, 13, 14, 17, 18, 30};
        int[] next = {0, 1, 1, 2, 2, 0, 0, 1, 1, 2, 2, 0, 1};
        for (int i = 0; i < minutes.length; i++) {
            FindersHide x = Check.told(Check.places(2, 3, 4, 9) + "seeker " + minutes[i] + " 0 1 2;ring 3;");
            x.week();
            due("2, 3 and 4 of " + minutes[i], x.seeker(0, 2), next[i]);
        }
    }

    private static void whatIsTooHardIsNotPassedBy() {
        FindersHide x = Check.told(Check.places(1, 9) + "seeker 8 0 1;");
        due("found", x.week(), 1);
        due("next", x.seeker(0, 2), 1);
        x.puts(0);
        for (int w = 0; w < 3; w++) {
            due("eight are not enough for it", x.week(), 0);
            due("and he goes no further", x.seeker(0, 2), 1);
        }
        due("nor will he", x.lies(0), NONE);
        due("nor there", x.lies(1), NONE);
    }

    private static void minutesAreNotKept() {
        FindersHide x = Check.told(Check.places(4, 4, 4, 9) + "seeker 6 0 1 2;ring 3;");
        int[] next = {1, 2, 0, 1};
        for (int want : next) {
            x.week();
            due("one look a week", x.seeker(0, 2), want);
        }
    }

    private static void looksNoMore() {
        FindersHide x = Check.told(Check.places(1, 1) + "seeker 30 0 1;");
        due("once", x.week(), 1);
        due("it lies in the next of his habit", x.now(0), 1);
        due("behind the find", x.seeker(0, 2), 1);
        due("and once", x.week(), 1);
        due("round", x.seeker(0, 2), 0);
        FindersHide y = Check.told(Check.places(9) + "seeker 30 0 0 0;");
        due("it stays, and he looks no more", y.week(), 1);
        due("behind the first find", y.seeker(0, 2), 1);
        due("had", y.seeker(0, 3), 1);
        FindersHide z = Check.told(Check.places(2, 2, 9) + "seeker 6 0 1 2;ring 1;");
        due("the second look", z.week(), 1);
        due("two minutes are left, and not used", z.seeker(0, 2), 2);
    }

    private static void onFromWhereItStopped() {
        FindersHide x = Check.told(Check.places(3, 3, 3, 3, 3, 9) + "seeker 6 0 1 2 3 4;ring 5;");
        int[] next = {2, 4, 1, 3, 0, 2, 4};
        for (int want : next) {
            due("not there", x.week(), 0);
            due("two looks a week, round and round", x.seeker(0, 2), want);
        }
        x.puts(0);
        due("from the last to the first", x.week(), 1);
        due("behind it", x.seeker(0, 2), 1);
        FindersHide twice = Check.told(Check.places(1, 1) + "seeker 3 1 0 1;ring 1;");
        due("the first of the same", twice.week(), 1);
        due("behind the first", twice.seeker(0, 2), 1);
        twice.puts(1);
        due("the other of the same", twice.week(), 1);
        due("behind the other", twice.seeker(0, 2), 0);
    }

    private static void seekerBySeeker() {
        FindersHide x = Check.told(Check.places(1, 1) + "seeker 1 1;seeker 1 0;");
        due("the first looked too early", x.week(), 1);
        due("had", x.seeker(0, 3), 0);
        due("had", x.seeker(1, 3), 1);
        FindersHide y = Check.told(Check.places(1, 1) + "seeker 1 0;seeker 1 1;");
        due("the second finds what the first hid", y.week(), 2);
        due("where the second hid it", y.now(0), 0);
        FindersHide z = Check.told(Check.places(1, 1) + "seeker 1 0;seeker 1 1;seeker 1 0;seeker 1 1;");
        due("all in one week", z.week(), 4);
        for (int k = 0; k < 4; k++) {
            due("each once", z.seeker(k, 3), 1);
        }
        due("by all", z.now(3), 4);
        FindersHide none = Check.told(Check.places(1, 1) + "seeker 0 0;seeker 1 1;seeker 0 1;seeker 0 0;");
        due("none in a week", none.week(), 0);
        due("week 1 all the same", none.now(1), 1);
    }

    private static void weeksFrom0To99() {
        FindersHide x = Check.told("place 1;seeker 1 0;");
        due("at first", x.now(1), 0);
        for (int w = 1; w <= 99; w++) {
            due("found", x.week(), 1);
            due("week", x.now(1), w);
            if (w == 98) {
                due("kept", x.keep(0), 98);
            }
        }
        for (int i = 0; i < 3; i++) {
            due("week 99 is the last", x.week(), STATE);
        }
        due("week", x.now(1), 99);
        due("had", x.now(3), 99);
        due("one may look still", x.looks(0, 0), 0);
        due("had", x.now(3), 100);
        due("and put it", x.puts(0), 0);
        due("back", x.back(0), 98);
        due("one week more", x.week(), 1);
        due("and none again", x.week(), STATE);
        due("had", x.now(3), 99);
        FindersHide nobody = Check.told("place 1;");
        due("with nobody", nobody.week(), 0);
        due("it goes by", nobody.now(1), 1);
    }

    private static void noPlace() {
        FindersHide x = new FindersHide();
        due("new", x.week(), STATE);
        Check.type(x, "law 1;");
        due("read", x.town(), 1);
        due("a law alone", x.week(), STATE);
        due("week", x.now(1), 0);
        FindersHide y = Check.told("place 1;seeker 1 0;");
        due("a place", y.week(), 1);
        due("read anew: nothing", y.town(), 0);
        due("no place any more", y.week(), STATE);
        due("nowhere", y.now(0), NONE);
        Check.type(y, "place 1;");
        due("read", y.town(), 1);
        due("a place again", y.week(), 0);
    }

    // ---- looks, puts, now, lot

    private static void looksWhateverTheMinutes() {
        FindersHide x = Check.told(Check.places(9, 9) + "seeker 0 0;seeker 8 1;");
        due("no minutes", x.looks(0, 0), 1);
        due("too few", x.looks(1, 1), 0);
        due("in a place that is none of his habit", x.looks(1, 0), 1);
        due("not there", x.looks(1, 0), NONE);
        due("had", x.seeker(0, 3), 1);
        due("had", x.seeker(1, 3), 2);
        FindersHide end = Setups.lastWeek();
        due("in week 99, too", end.looks(0, end.now(0)) >= 0 ? 1 : 0, 1);
    }

    private static void looksLeaveTheHabit() {
        FindersHide x = Check.told(Check.places(1, 1, 1) + "seeker 1 0 1 2;ring 2;");
        due("the next of his habit, not there", x.looks(0, 0), NONE);
        due("next", x.seeker(0, 2), 0);
        x.puts(0);
        due("the next of his habit, there", x.looks(0, 0), 1);
        due("next", x.seeker(0, 2), 0);
        Probe.changesNothing("a look that finds nothing", Setups::allFull, y -> y.looks(0, 0), NONE);
        Probe.changesNothing("a look that finds nothing", Setups::lastWeek, y -> y.looks(1, 1), NONE);
    }

    /** Each SEEKER in each PLACE: it is there but once. */
    private static void looksOfEach() {
        for (int k = 0; k < 4; k++) {
            for (int ring = 0; ring < 6; ring++) {
                for (int p = 0; p < 6; p++) {
                    FindersHide x = Check.told(Check.places(1, 2, 3, 4, 5, 6) + "seeker 1 0;seeker 1 0;seeker 1 0;seeker 1 0;");
                    x.puts(ring);
                    int near = Math.min(5, ring + 1);
                    due("looks(" + k + ", " + p + ") with the ring at " + ring, x.looks(k, p), p == ring ? near : NONE);
                    due("had", x.seeker(k, 3), p == ring ? 1 : 0);
                    due("by all", x.now(3), p == ring ? 1 : 0);
                    due("where", x.now(0), p == ring ? near : ring);
                }
            }
        }
    }

    private static void putsToEach() {
        FindersHide x = Check.told(Check.places(1, 2, 3, 4, 5, 6) + "ring 3;");
        int was = 3;
        for (int p : new int[] {0, 5, 5, 1, 0, 2, 4, 3}) {
            due("puts(" + p + ")", x.puts(p), was);
            due("there", x.now(0), p);
            was = p;
        }
        due("one place", Check.told("place 1;").puts(0), 0);
        Probe.same("put and put back", Probe.after(Setups::allFull, y -> {
            y.puts(5);
            y.puts(1);
        }), Setups::allFull);
        Probe.changesNothing("put where it is", Setups::allFull, y -> y.puts(1), 1);
    }

    private static void nowAtItsEdges() {
        FindersHide x = new FindersHide();
        int[] atFirst = {NONE, 0, 0, 0};
        for (int what = 0; what < 4; what++) {
            due("new: now(" + what + ")", x.now(what), atFirst[what]);
        }
        FindersHide y = Check.told("place 1;".repeat(6) + "seeker 1 5;seeker 1 0;law 2;ring 5;");
        y.lot(lotAhead(0));
        for (int w = 0; w < 99; w++) {
            y.puts(5);
            y.lot(lotAhead(0));
            due("both", y.week(), 2);
        }
        y.puts(5);
        int[] last = {5, 99, 2, 198};
        for (int what = 0; what < 4; what++) {
            due("last: now(" + what + ")", y.now(what), last[what]);
        }
    }

    private static void lotBecomesWhatever() {
        int was = 1;
        FindersHide x = new FindersHide();
        for (int v : new int[] {0, 1, -1, Integer.MAX_VALUE, Integer.MIN_VALUE, 12345, 0}) {
            due("lot(" + v + ")", x.lot(v), was);
            was = v;
        }
        Probe.same("another lot and back", Probe.after(Setups::allFull, y -> y.lot(y.lot(7))), Setups::allFull);
    }
}
