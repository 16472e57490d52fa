/** What was SEEN, BEGAN and COULD at their edges. */
final class SeenEdgesTest {
    private static final int BAD = -1, FULL = -3;
    /** Told at 0 it is found in the first WEEK, and never again; told at 1 it is never found. */
    private static final String ONCE = "place 1;place 2;seeker 1 0;";

    private SeenEdgesTest() {
    }

    public static void main(String[] args) {
        weeksThatWentBy();
        seekersAndFound();
        eightAtMost();
        forgetAtItsEdges();
        couldOfNone();
        couldOfAll();
        couldByTheFirstAndTheLastWeek();
        couldByEachSeeker();
        couldByEachWeek();
        couldByAllThatWasSeen();
        couldByEachLaw();
        couldWhateverElseWasDone();
        Check.finish("SeenEdgesTest");
    }

    private static void due(String call, long got, long want) {
        Check.due(call, got, want);
    }

    private static void could(String what, FindersHide x, int began, int could) {
        due(what + ": began", x.could(0), began);
        due(what + ": could", x.could(1), could);
    }

    private static FindersHide afterWeeks(String text, int weeks) {
        FindersHide x = Check.told(text);
        for (int w = 0; w < weeks; w++) {
            x.week();
        }
        return x;
    }

    private static void weeksThatWentBy() {
        for (int weeks : new int[] {0, 1, 2, 50, 98, 99}) {
            FindersHide x = afterWeeks(ONCE, weeks);
            due("week " + weeks + ": one to come", x.saw(weeks, 0, 0), BAD);
            due("week " + weeks + ": far to come", x.saw(100, 0, 0), BAD);
            due("week " + weeks + ": below", x.saw(-1, 0, 0), BAD);
            due("week " + weeks + ": the first", x.saw(0, 0, 0), weeks > 0 ? 1 : BAD);
            due("week " + weeks + ": the last", x.saw(weeks - 1, 0, 0), weeks > 0 ? 2 : BAD);
            due("week " + weeks + ": seen", x.count(2), weeks > 0 ? 2 : 0);
        }
        FindersHide x = afterWeeks(ONCE, 3);
        x.keep(0);
        x.week();
        due("the fourth", x.saw(3, 0, 0), 1);
        x.back(0);
        due("back: it did not go by", x.saw(3, 0, 0), BAD);
        due("back: this did", x.saw(2, 0, 0), 1);
    }

    private static void seekersAndFound() {
        for (int seekers = 0; seekers <= 4; seekers++) {
            FindersHide x = afterWeeks("place 1;" + "seeker 1 0;".repeat(seekers), 1);
            for (int k = 0; k < seekers; k++) {
                due("saw(0, " + k + ", 1)", x.saw(0, k, 1), k + 1);
            }
            due("no such seeker", x.saw(0, seekers, 1), BAD);
            due("seeker below", x.saw(0, -1, 1), BAD);
            due("seen", x.count(2), seekers);
        }
        FindersHide x = afterWeeks(ONCE, 1);
        due("not found", x.saw(0, 0, 0), 1);
        due("found", x.saw(0, 0, 1), 2);
        due("neither", x.saw(0, 0, 2), BAD);
        due("neither", x.saw(0, 0, -1), BAD);
    }

    private static void eightAtMost() {
        FindersHide x = afterWeeks(ONCE, 9);
        for (int i = 0; i < 8; i++) {
            due("how much", x.saw(i, 0, i == 0 ? 1 : 0), i + 1);
            due("count", x.count(2), i + 1);
        }
        due("a ninth", x.saw(8, 0, 0), FULL);
        due("what was seen already, too", x.saw(0, 0, 1), FULL);
        due("still eight", x.count(2), 8);
        could("eight that are so", x, 1, 2);
        due("eight were", x.forget(), 8);
        for (int i = 0; i < 8; i++) {
            due("the same eight times", x.saw(0, 0, 0), i + 1);
        }
        due("a ninth of the same", x.saw(0, 0, 0), FULL);
        could("eight that are so", x, 2, 2);
        due("all eight count", x.forget(), 8);
        for (int i = 0; i < 7; i++) {
            x.saw(0, 0, 0);
        }
        due("the eighth", x.saw(8, 0, 1), 8);
        could("the eighth is not so", x, 0, 0);
    }

    private static void forgetAtItsEdges() {
        due("new", new FindersHide().forget(), 0);
        FindersHide x = afterWeeks(ONCE, 1);
        due("nothing", x.forget(), 0);
        x.saw(0, 0, 1);
        due("one", x.forget(), 1);
        due("nothing again", x.forget(), 0);
        due("nothing was seen", x.count(2), 0);
        could("nothing was seen", x, 3, 2);
        due("from the first again", x.saw(0, 0, 0), 1);
        could("what was forgotten does not count", x, 2, 2);
        due("the week stays", x.now(1), 1);
    }

    // ---- could

    private static void couldOfNone() {
        could("new", new FindersHide(), 0, 0);
        could("no places", Check.told("law 2;"), 0, 0);
    }

    private static void couldOfAll() {
        int all = 0;
        for (int p = 0; p < 6; p++) {
            all |= 1 << p;
            String text = "place 3;".repeat(p + 1);
            could("week 0", Check.told(text + "seeker 30 0;"), all, all);
            could("nobody", afterWeeks(text, 9), all, all);
            could("nobody looks", afterWeeks(text + "seeker 2 0;", 99), all, all);
        }
        String far = "place 1;place 1;place 1;place 9;seeker 9 0 1 2;law 1;";
        could("all come to one", afterWeeks(far, 1), 15, 8);
    }

    private static void couldByTheFirstAndTheLastWeek() {
        for (int weeks : new int[] {1, 2, 99}) {
            could("not seen", afterWeeks(ONCE, weeks), 3, 2);
            FindersHide x = afterWeeks(ONCE, weeks);
            x.saw(0, 0, 1);
            could("found in the first", x, 1, 2);
            x.forget();
            x.saw(0, 0, 0);
            could("not found in the first", x, 2, 2);
            x.forget();
            x.saw(weeks - 1, 0, 1);
            could("found in the last", x, weeks == 1 ? 1 : 0, weeks == 1 ? 2 : 0);
            x.forget();
            x.saw(weeks - 1, 0, 0);
            could("not found in the last", x, weeks == 1 ? 2 : 3, 2);
        }
    }

    /** Each SEEKER has a PLACE of his own; where it is found it goes to PLACE 4, and is found no more. */
    private static void couldByEachSeeker() {
        String text = "place 1;place 2;place 3;place 4;place 9;seeker 8 0;seeker 8 1;seeker 8 2;seeker 8 3;law 1;";
        for (int k = 0; k < 4; k++) {
            FindersHide x = afterWeeks(text, 2);
            could("not seen", x, 31, 16);
            x.saw(0, k, 1);
            could("seeker " + k + " found it", x, 1 << k, 16);
            x.forget();
            x.saw(0, k, 0);
            could("seeker " + k + " did not", x, 31 - (1 << k), 16);
            x.saw(1, k, 1);
            could("nor in the week behind", x, 0, 0);
        }
    }

    /** One look a WEEK: where it was told tells the WEEK in which he finds it. */
    private static void couldByEachWeek() {
        String text = "place 1;place 1;place 1;place 1;place 1;place 9;seeker 1 0 1 2 3 4;law 1;";
        for (int week = 0; week < 5; week++) {
            FindersHide x = afterWeeks(text, 5);
            could("not seen", x, 63, 32);
            x.saw(week, 0, 1);
            could("found in week " + week, x, 1 << week, 32);
            FindersHide y = afterWeeks(text, week + 1);
            y.saw(week, 0, 0);
            int later = 31 & -(2 << week);
            could("not found in week " + week, y, 63 - (1 << week), later | 32);
        }
    }

    private static void couldByAllThatWasSeen() {
        FindersHide x = afterWeeks("place 1;place 1;place 1;place 9;seeker 1 0 1 2;law 1;", 3);
        could("not seen", x, 15, 8);
        x.saw(0, 0, 0);
        could("one", x, 14, 8);
        x.saw(1, 0, 0);
        could("two", x, 12, 8);
        x.saw(0, 0, 0);
        could("one of them twice", x, 12, 8);
        x.saw(2, 0, 1);
        could("three", x, 4, 8);
        x.saw(2, 0, 0);
        could("yes and no", x, 0, 0);
    }

    private static void couldByEachLaw() {
        String text = "place 2;place 5;place 2;place 9;seeker 2 0;";
        int[] want = {4 + 2 + 8, 8 + 2 + 4, 4 + 2 + 8};
        int[] told = {4, 8, 4};
        for (int law = 0; law <= 2; law++) {
            for (int lot : new int[] {0, 1, -1, 77777}) {
                FindersHide x = Check.told(text + "law " + law + ";");
                x.lot(lot);
                x.week();
                could("law " + law, x, 15, want[law]);
                x.saw(0, 0, 1);
                could("found, law " + law, x, 1, told[law]);
            }
        }
    }

    private static void couldWhateverElseWasDone() {
        for (int ring = 0; ring < 2; ring++) {
            FindersHide x = afterWeeks(ONCE + "ring " + ring + ";", 2);
            could("told at " + ring, x, 3, 2);
            x.puts(0);
            x.looks(0, 0);
            x.looks(0, 1);
            x.lot(99);
            could("put and looked for", x, 3, 2);
            x.saw(0, 0, 1);
            could("seen", x, 1, 2);
            x.keep(0);
            x.forget();
            x.week();
            could("a week more", x, 3, 2);
            x.back(0);
            could("what an image has seen", x, 1, 2);
        }
    }
}
