/** Each promise of the document by hand: ordinary inputs, the edges that it names, and wrong inputs. */
final class PromiseTest {
    private static final int BAD = FindersHide.BAD, STATE = FindersHide.STATE, FULL = FindersHide.FULL;
    private static final int NONE = FindersHide.NONE, NO = FindersHide.NO;

    private PromiseTest() {
    }

    public static void main(String[] args) {
        promise1New();
        promise2Type();
        promise3Clear();
        promise4TownTold();
        promise4TownFaults();
        promise4TownAnew();
        promise5Place();
        promise6Seeker();
        promise7Habit();
        promise8Puts();
        promise9Looks();
        promise10Week();
        promise10WeekByLaw();
        promise11Now();
        promise12Lot();
        promise13Lies();
        promise14Longest();
        promise15Odds();
        promise16Lots();
        promise17Sweep();
        promise18Order();
        promise19Saw();
        promise20Forget();
        promise21Could();
        promise22Mark();
        promise23and24Images();
        promise25Count();
        promise26Trace();
        wildNumbers();
        Check.finish("PromiseTest");
    }

    private static void due(String call, long got, long want) {
        Check.due(call, got, want);
    }

    private static void promise1New() {
        FindersHide x = new FindersHide();
        for (int what = 0; what < 4; what++) {
            due("new: count(" + what + ")", x.count(what), 0);
        }
        due("new: ring", x.now(0), NONE);
        due("new: week", x.now(1), 0);
        due("new: law", x.now(2), 0);
        due("new: had", x.now(3), 0);
        due("new: trace", x.trace(), 0);
        due("new: lot", x.lot(1), 1);
        due("new: back(0)", x.back(0), STATE);
        due("new: back(1)", x.back(1), STATE);
    }

    private static void promise2Type() {
        FindersHide x = new FindersHide();
        due("type none", x.type(5, 0), BAD);
        due("type nine", x.type(5, 9), BAD);
        due("type below", x.type(5, Integer.MIN_VALUE), BAD);
        due("type ';'", x.type(0x1234565BL, 1), 1);
        due("its lowest byte alone is there, and can't stand", x.town(), -10);
        x.clear();
        // 'law 2;' behind bytes of v that are not asked for.
        due("type six of eight", x.type(0x7171_6c61_7720_323bL, 6), 6);
        due("the highest first", x.town(), 1);
        due("law", x.now(2), 2);
        for (int i = 1; i <= 24; i++) {
            due("type eight", x.type(0x2020202020202020L, 8), 8 * i);
        }
        due("199", x.type(0x20202020202020L, 7), 199);
        due("no room for two", x.type(0x2020L, 2), FULL);
        due("BAD ahead of FULL", x.type(0x2020L, 9), BAD);
        due("nothing came", x.count(3), 199);
        due("room for one", x.type(0x20L, 1), 200);
        due("no room at all", x.type(0x20L, 1), FULL);
        due("blanks alone", x.town(), 0);
        due("minus one is eight bytes 255", x.type(-1L, 8), 8);
        due("which begin none", x.town(), -10);
    }

    private static void promise3Clear() {
        FindersHide x = new FindersHide();
        due("clear nothing", x.clear(), 0);
        x.type(5, 3);
        due("clear", x.clear(), 3);
        due("clear again", x.clear(), 0);
        due("from the front again", x.type(0x20L, 1), 1);
    }

    private static void promise4TownTold() {
        FindersHide x = Check.told("  place 3;place9 ; place 1;seeker 30 0 1 2 1 0;law2;ring  1 ;  seeker 0 2; ");
        due("places", x.count(0), 3);
        due("seekers", x.count(1), 2);
        due("hard", x.place(1, 0), 9);
        due("minutes", x.seeker(0, 0), 30);
        due("habit", x.seeker(0, 1), 5);
        due("ring", x.now(0), 1);
        due("law", x.now(2), 2);
        due("the text is empty then", x.count(3), 0);
        due("none told", Check.read(""), 0);
        due("blanks", Check.read("   "), 0);
        due("items", Check.read("law 0;place 1;ring 0;seeker 5 0;"), 4);
        due("six places", Check.read("place 1;place 2;place 3;place 4;place 5;place 9;ring 5;"), 7);
        due("ring of places told till then", Check.read("place 1;ring 0;place 2;"), 3);
        due("four seekers", Check.read("place 1;seeker 0 0;seeker 1 0;seeker 2 0;seeker 30 0 0 0 0 0;"), 5);
    }

    private static void fault(String text, int place) {
        due("fault of '" + text + "'", Check.read(text), -10 - place);
    }

    private static void promise4TownFaults() {
        fault("place", 5);
        fault("place 1", 7);
        fault("place 1  ", 9);
        fault("place 0;", 6);
        fault("place 10;", 6);
        fault("place 100;", 6);
        fault("place 4294967297;", 6);
        fault("place 01;", 6);
        fault("place 00;", 6);
        fault("place ;", 6);
        fault("place law 1;", 6);
        fault("place 1 2;", 8);
        fault("place 1a;", 7);
        fault("place 1;x", 8);
        fault("place1;Place 2;", 7);
        fault("placelaw 1;", 0);
        fault("\tplace 1;", 0);
        fault(" place\t1;", 6);
        fault("place 1;;", 8);
        fault(";", 0);
        fault("7", 0);
        fault("pla ce 1;", 0);
        fault("placer 1;", 0);
        fault("placez 1;", 0);
        fault("aplace 1;", 0);
        fault("plbce 1;", 0);
        fault("{", 0);
        fault("`", 0);
        fault("place 1;place 2;place 3;place 4;place 5;place 6;  place 7;", 50);
        fault("place 1;seeker 31 0;", 15);
        fault("place 1;seeker 30;", 17);
        fault("place 1;seeker;", 14);
        fault("place 1;seeker 30", 17);
        fault("place 1;seeker 1 0", 18);
        fault("place 1;seeker 30 1;", 18);
        fault("place 1;seeker 1 0 0 0 1;", 23);
        fault("place 1;seeker 1 0 0 0 0 0 0;", 27);
        fault("place 1;seeker 1 0 0 0 0 0 x", 27);
        fault("place 1;seeker 1 0 law", 19);
        fault("seeker 1 0;place 1;", 9);
        fault("place 1;seeker 1 0;seeker 1 0;seeker 1 0;seeker 1 0;seeker 1 0;", 52);
        fault("ring 0;", 5);
        fault("ring 0;place 1;", 5);
        fault("place 1;ring 1;", 13);
        fault("place 1;ring 0;ring 0;", 15);
        fault("place 1;ring 0 0;", 15);
        fault("law 3;", 4);
        fault("law 1;law 1;", 6);
        fault("law", 3);
        fault("law 1", 5);
    }

    private static void promise4TownAnew() {
        FindersHide x = Check.told("place 2;place 3;seeker 9 1 0;law 1;ring 1;");
        x.lot(77);
        x.week();
        x.saw(0, 0, 1);
        x.keep(0);
        x.keep(1);
        x.mark(1, 0);
        Check.type(x, "place 2;place");
        due("fault", x.town(), -23);
        due("the text stays", x.count(3), 13);
        due("places stay", x.count(0), 2);
        due("law stays", x.now(2), 1);
        due("week stays", x.now(1), 1);
        due("had stays", x.now(3), 1);
        due("seen stays", x.count(2), 1);
        due("an image stays", x.back(1), 1);
        x.clear();
        Check.type(x, "place 4;place 4;place 4;seeker 3 2;");
        due("anew", x.town(), 4);
        due("week 0", x.now(1), 0);
        due("law as at first", x.now(2), 0);
        due("ring as at first", x.now(0), 0);
        due("had", x.now(3), 0);
        due("had by one", x.seeker(0, 3), 0);
        due("habit at first", x.seeker(0, 2), 0);
        due("nothing seen", x.count(2), 0);
        due("images are gone", x.back(0), STATE);
        due("images are gone", x.back(1), STATE);
        due("the lot stays", x.lot(78), 77);
        due("the trace stays", x.trace(), 11);
        Check.type(x, "place 6;place 2;law 2;ring 1;seeker 9 1 1 0;");
        due("law and ring told once more", x.town(), 5);
        due("habit is new", x.seeker(0, 1), 3);
        due("minutes of all are new", x.sweep(0), 8);
        due("no worse is new", x.place(0, 2), 0);
        due("no worse is new", x.place(1, 2), 1);
        Check.type(x, "place 1;place 1;");
        due("once more", x.town(), 2);
        due("law as at first", x.now(2), 0);
        due("ring as at first", x.now(0), 0);
        due("an empty text tells nothing", x.town(), 0);
        due("no places", x.count(0), 0);
        due("nobody", x.count(1), 0);
        due("nowhere", x.now(0), NONE);
        due("the lot stays", x.lot(1), 78);
    }

    private static void promise5Place() {
        FindersHide x = Check.told("place 3;place 5;place 3;place 9;");
        int[][] want = {{3, 0, 14}, {5, 0, 8}, {3, 0, 11}, {9, 1, 0}};
        for (int p = 0; p < 4; p++) {
            for (int what = 0; what < 3; what++) {
                due("place(" + p + ", " + what + ")", x.place(p, what), want[p][what]);
            }
        }
        due("place(4, 0)", x.place(4, 0), BAD);
        due("place(-1, 0)", x.place(-1, 0), BAD);
        due("place(0, 3)", x.place(0, 3), BAD);
        due("place(0, -1)", x.place(0, -1), BAD);
    }

    private static void promise6Seeker() {
        FindersHide x = Check.told("place 2;place 5;seeker 9 0 1;seeker 1 0;");
        int[] want = {9, 2, 0, 0};
        for (int what = 0; what < 4; what++) {
            due("seeker(0, " + what + ")", x.seeker(0, what), want[what]);
        }
        x.week();
        // He finds it at once, and looks no more though he has seven minutes left.
        due("next behind the find", x.seeker(0, 2), 1);
        due("had", x.seeker(0, 3), 1);
        x.looks(1, 1);
        due("had by a look", x.seeker(1, 3), 1);
        due("the other's", x.seeker(0, 3), 1);
        due("a look leaves the habit", x.seeker(1, 2), 0);
        due("no such", x.seeker(2, 0), BAD);
        due("no such", x.seeker(-1, 0), BAD);
        due("seeker(0, 4)", x.seeker(0, 4), BAD);
        due("seeker(0, -1)", x.seeker(0, -1), BAD);
    }

    private static void promise7Habit() {
        FindersHide x = Check.told("place 2;place 5;seeker 9 1 0 1;seeker 1 0;");
        int[] want = {1, 0, 1, -5};
        for (int i = 0; i < 4; i++) {
            due("habit(0, " + i + ")", x.habit(0, i), want[i]);
        }
        due("habit(1, 1)", x.habit(1, 1), -5);
        due("habit(1, far)", x.habit(1, Integer.MAX_VALUE), -5);
        due("habit(0, -1)", x.habit(0, -1), BAD);
        due("habit(2, 0)", x.habit(2, 0), BAD);
        due("habit(-1, 0)", x.habit(-1, 0), BAD);
    }

    private static void promise8Puts() {
        FindersHide x = Check.told("place 2;place 5;place 1;ring 1;");
        due("puts(2)", x.puts(2), 1);
        due("puts(0)", x.puts(0), 2);
        due("puts(0)", x.puts(0), 0);
        due("puts(3)", x.puts(3), BAD);
        due("puts(-1)", x.puts(-1), BAD);
        due("it stays", x.now(0), 0);
        due("nobody had it", x.now(3), 0);
    }

    private static void promise9Looks() {
        FindersHide x = Check.told("place 2;place 9;place 5;place 2;seeker 0 1;");
        due("not there", x.looks(0, 2), NONE);
        due("not had", x.now(3), 0);
        due("near, whatever his minutes", x.looks(0, 0), 3);
        due("had", x.now(3), 1);
        due("near again", x.looks(0, 3), 0);
        due("no such seeker", x.looks(1, 0), BAD);
        due("no such place", x.looks(0, 4), BAD);
        due("below", x.looks(-1, 0), BAD);
        due("below", x.looks(0, -1), BAD);
        x.puts(2);
        due("up", x.looks(0, 2), 1);
        due("used up: it stays", x.looks(0, 1), 1);
        due("had all the same", x.now(3), 4);
        due("no week went by", x.now(1), 0);
        FindersHide far = Check.told("place 2;place 9;place 5;place 9;seeker 0 1;law 1;");
        due("far, of several the least", far.looks(0, 0), 1);
        due("far", far.looks(0, 1), 3);
    }

    private static void promise10Week() {
        FindersHide none = new FindersHide();
        due("no place", none.week(), STATE);
        FindersHide x = Check.told("place 4;place 5;place 6;seeker 9 1 2 0;ring 2;");
        due("minutes end ahead of it", x.week(), 0);
        due("one look: five, then four left of six", x.seeker(0, 2), 1);
        due("found first", x.week(), 1);
        due("next", x.seeker(0, 2), 2);
        due("used up", x.now(0), 2);
        due("4 and 5", x.week(), 0);
        due("round", x.seeker(0, 2), 1);
        due("weeks", x.now(1), 3);
        FindersHide exact = Check.told("place 4;place 5;seeker 9 0 1;ring 1;");
        due("no less than hard is enough", exact.week(), 1);
        due("round", exact.seeker(0, 2), 0);
        FindersHide two = Check.told("place 1;place 1;seeker 2 0 1;seeker 1 1;seeker 3 0;");
        due("several in one week", two.week(), 3);
        due("where", two.now(0), 1);
        due("the first looked but once", two.seeker(0, 2), 1);
        FindersHide end = Check.told("place 1;");
        for (int w = 0; w < 99; w++) {
            due("a week with nobody", end.week(), 0);
        }
        due("week 99", end.week(), STATE);
        due("it stays", end.now(1), 99);
        FindersHide poor = Check.told("place 2;seeker 1 0;");
        due("too hard", poor.week(), 0);
        due("he did not look", poor.seeker(0, 2), 0);
    }

    private static void promise10WeekByLaw() {
        FindersHide near = Check.told("place 3;place 9;place 4;place 4;seeker 30 0 2 3 1;");
        due("found once", near.week(), 1);
        due("near", near.now(0), 2);
        due("again", near.week(), 1);
        due("near, as hard", near.now(0), 3);
        FindersHide far = Check.told("place 3;place 9;place 4;place 9;seeker 30 0 2 3 1;law 1;");
        due("found", far.week(), 1);
        due("far", far.now(0), 1);
        FindersHide lot = Check.told("place 1;place 2;place 3;place 4;place 5;seeker 3 0;law 2;");
        // 1 * 1103515245 + 12345 = 1103527590 = 16838 * 65536 + 32422; 16838 = 4 * 4209 + 2
        due("found", lot.week(), 1);
        due("the third of those no worse", lot.now(0), 3);
        due("the lot went on", lot.lot(-1), 1103527590);
        lot.puts(0);
        lot.looks(0, 0);
        // -1103515245 + 12345 wrapped is 3191464396 without sign: 48697 * 65536 + ..; 48697 = 4 * 12174 + 1
        due("upper bits without a sign", lot.now(0), 2);
        lot.puts(4);
        int was = lot.lot(5);
        lot.lot(was);
        due("used up: it stays", lot.looks(0, 4), 4);
        due("and the lot, too", lot.lot(0), was);
    }

    private static void promise11Now() {
        FindersHide x = Check.told("place 2;place 5;seeker 9 0 1;seeker 9 1;law 1;");
        due("week()", x.week(), 2);
        int[] want = {1, 1, 1, 2};
        for (int what = 0; what < 4; what++) {
            due("now(" + what + ")", x.now(what), want[what]);
        }
        due("now(4)", x.now(4), BAD);
        due("now(-1)", x.now(-1), BAD);
    }

    private static void promise12Lot() {
        FindersHide x = new FindersHide();
        due("at first", x.lot(Integer.MIN_VALUE), 1);
        due("then", x.lot(0), Integer.MIN_VALUE);
        due("then", x.lot(3), 0);
        due("then", x.lot(3), 3);
    }

    private static void promise13Lies() {
        FindersHide x = Check.told("place 3;place 4;place 5;place 5;seeker 5 0 1 2;law 2;ring 3;");
        due("lies(0)", x.lies(0), 1);
        due("lies(1)", x.lies(1), 2);
        due("lies(2)", x.lies(2), 3);
        due("lies(3)", x.lies(3), NONE);
        due("nothing is changed", x.now(0), 3);
        due("nor the week", x.now(1), 0);
        due("nor the habit", x.seeker(0, 2), 0);
        due("nor the lot", x.lot(1), 1);
        due("nor who had it", x.now(3), 0);
        x.week();
        due("from now", x.lies(0), 3);
        due("from now", x.lies(1), 1);
        due("lies(4)", x.lies(4), BAD);
        due("lies(-1)", x.lies(-1), BAD);
        for (int w = 1; w < 99; w++) {
            x.week();
        }
        due("from week 99, as if weeks went on", x.lies(0), 1);
        due("from week 99, as if weeks went on", x.lies(2), 3);
    }

    private static void promise14Longest() {
        due("no place", new FindersHide().longest(), NONE);
        FindersHide x = Check.told("place 3;place 4;place 5;seeker 5 0 1 2;");
        due("longest", x.longest(), 2);
        x.week();
        due("from now", x.longest(), 0);
        due("of several the least", Check.told("place 1;place 1;seeker 2 0 1;").longest(), 0);
        due("none is longest", Check.told("place 1;place 1;place 1;seeker 1 0;").longest(), 1);
    }

    private static void fraction(FindersHide x, int n, int p, long upper, long lower) {
        Check.dueFraction("odds(" + n + ", " + p + ")", x.odds(n, p, 0), x.odds(n, p, 1), upper, lower);
    }

    private static void promise15Odds() {
        FindersHide x = Check.told("place 2;place 2;place 3;seeker 2 0;seeker 3 2;");
        fraction(x, 0, 0, 1, 1);
        fraction(x, 0, 1, 0, 1);
        // The first seeker finds it at 0: 1 or 2 alike, whatever the law; at 2 it stays.
        fraction(x, 1, 0, 0, 1);
        fraction(x, 1, 1, 1, 2);
        fraction(x, 1, 2, 1, 2);
        fraction(x, 2, 1, 1, 2);
        FindersHide y = Check.told("place 1;place 1;place 1;place 1;seeker 1 0;law 1;");
        fraction(y, 1, 3, 1, 3);
        fraction(y, 2, 0, 0, 1);
        FindersHide z = Check.told("place 1;place 1;place 1;seeker 2 0 1;");
        fraction(z, 2, 0, 1, 4);
        fraction(z, 2, 1, 0, 1);
        fraction(z, 2, 2, 3, 4);
        due("nothing is changed", z.now(0), 0);
        due("nor the habit", z.seeker(0, 2), 0);
        due("nor the lot", z.lot(1), 1);
        due("n above", z.odds(3, 0, 0), BAD);
        due("n below", z.odds(-1, 0, 0), BAD);
        due("no such place", z.odds(0, 3, 0), BAD);
        due("below", z.odds(0, -1, 0), BAD);
        due("what above", z.odds(0, 0, 2), BAD);
        due("what below", z.odds(0, 0, -1), BAD);
        oddsByHabits();
        oddsAtTheirLargest();
    }

    private static void oddsByHabits() {
        FindersHide x = Check.told("place 1;place 1;place 1;seeker 1 0;seeker 2 1 0 2;");
        // The first finds it: 1 or 2. At 1 the second finds it: 0 or 2; at 2 he looks in 1 and 0.
        fraction(x, 1, 0, 1, 4);
        fraction(x, 1, 1, 0, 1);
        fraction(x, 1, 2, 3, 4);
        // He goes on at 0 in the one case, at 2 in the other.
        fraction(x, 2, 0, 7, 16);
        fraction(x, 2, 1, 9, 16);
        fraction(x, 2, 2, 0, 1);
        FindersHide y = Check.told("place 1;place 1;place 1;seeker 1 0 1;ring 2;");
        y.week();
        y.puts(1);
        fraction(y, 1, 0, 1, 2);
        fraction(y, 1, 1, 0, 1);
        fraction(y, 2, 0, 0, 1);
        fraction(y, 2, 1, 1, 4);
        fraction(y, 2, 2, 3, 4);
    }

    private static void oddsAtTheirLargest() {
        FindersHide x = Check.told("place 1;place 1;place 1;place 1;place 1;place 1;seeker 30 0 1 2 3 4;"
            + "seeker 30 0 1 2 3 4;seeker 30 0 1 2 3 4;seeker 30 0 1 2 3 4;");
        long whole = 390625;
        long sum = 0;
        for (int p = 0; p < 6; p++) {
            sum += x.odds(2, p, 0) * (whole / x.odds(2, p, 1));
        }
        due("all odds together", sum, whole);
    }

    private static void promise16Lots() {
        FindersHide x = Check.told("place 3;place 5;place 2;place 2;");
        int[][] want = {{1, 4, 1, 12}, {5, 12, 1, 12}, {1, 6, 1, 12}, {1, 6, 1, 12}};
        for (int p = 0; p < 4; p++) {
            for (int what = 0; what < 4; what++) {
                due("lots(" + p + ", " + what + ")", x.lots(p, what), want[p][what]);
            }
        }
        due("one place", Check.told("place 7;").lots(0, 1), 1);
        due("lots(4, 0)", x.lots(4, 0), BAD);
        due("lots(-1, 0)", x.lots(-1, 0), BAD);
        due("lots(0, 4)", x.lots(0, 4), BAD);
        due("lots(0, -1)", x.lots(0, -1), BAD);
    }

    private static void promise17Sweep() {
        FindersHide none = new FindersHide();
        due("nothing", none.sweep(0), 0);
        due("nothing", none.sweep(1), 0);
        due("by one", none.sweep(2), 1);
        FindersHide x = Check.told("place 9;place 1;place 5;place 1;");
        // 1, 2, 7, 16: 26 by 4
        due("all", x.sweep(0), 16);
        due("mean", x.sweep(1), 13);
        due("mean", x.sweep(2), 2);
        due("sweep(3)", x.sweep(3), BAD);
        due("sweep(-1)", x.sweep(-1), BAD);
    }

    private static void promise18Order() {
        FindersHide x = Check.told("place 9;place 1;place 5;place 1;");
        int[] want = {1, 3, 2, 0, -5};
        for (int i = 0; i < 5; i++) {
            due("order(" + i + ")", x.order(i), want[i]);
        }
        due("order(-1)", x.order(-1), BAD);
        due("order far", x.order(Integer.MAX_VALUE), -5);
        due("order of none", new FindersHide().order(0), -5);
    }

    private static void promise19Saw() {
        FindersHide x = Check.told("place 1;seeker 1 0;");
        due("no week went by", x.saw(0, 0, 1), BAD);
        x.week();
        x.week();
        due("first", x.saw(1, 0, 1), 1);
        due("a week to come", x.saw(2, 0, 1), BAD);
        due("below", x.saw(-1, 0, 1), BAD);
        due("no such seeker", x.saw(0, 1, 1), BAD);
        due("below", x.saw(0, -1, 1), BAD);
        due("found above", x.saw(0, 0, 2), BAD);
        due("found below", x.saw(0, 0, -1), BAD);
        for (int i = 2; i <= 8; i++) {
            due("saw", x.saw(0, 0, 1), i);
        }
        due("full", x.saw(0, 0, 1), FULL);
        due("BAD ahead of FULL", x.saw(2, 0, 1), BAD);
        due("eight", x.count(2), 8);
    }

    private static void promise20Forget() {
        FindersHide x = Check.told("place 1;seeker 1 0;");
        due("nothing", x.forget(), 0);
        x.week();
        x.saw(0, 0, 0);
        x.saw(0, 0, 0);
        due("could not", x.could(0), 0);
        due("two", x.forget(), 2);
        due("nothing any more", x.forget(), 0);
        due("could", x.could(0), 1);
    }

    private static void promise21Could() {
        due("no place", new FindersHide().could(1), 0);
        FindersHide x = Check.told("place 2;place 3;place 4;seeker 2 0;seeker 3 1;");
        due("week 0: wherever", x.could(0), 7);
        due("week 0: there", x.could(1), 7);
        x.week();
        // From 0: to 1, to 2. From 1: to 2. From 2: it stays.
        due("all", x.could(0), 7);
        due("all in one", x.could(1), 4);
        x.saw(0, 1, 1);
        due("the second found it", x.could(0), 3);
        x.saw(0, 0, 0);
        due("and not the first", x.could(0), 2);
        due("where", x.could(1), 4);
        x.saw(0, 1, 0);
        due("yes and no", x.could(0), 0);
        due("nowhere", x.could(1), 0);
        x.forget();
        x.puts(0);
        x.looks(0, 0);
        due("nothing but weeks counts", x.could(1), 4);
        due("could(2)", x.could(2), BAD);
        due("could(-1)", x.could(-1), BAD);
        FindersHide lot = Check.told("place 2;place 5;place 2;seeker 2 0;law 2;");
        lot.lot(40);
        lot.week();
        due("near, by lot", lot.could(1), 6);
        due("the lot stays as it is", lot.lot(1), 40 * 1103515245 + 12345);
        FindersHide far = Check.told("place 2;place 5;place 2;seeker 2 0;law 1;");
        far.week();
        due("far", far.could(1), 6);
        far.saw(0, 0, 1);
        due("far: found", far.could(1), 2);
    }

    private static void promise22Mark() {
        FindersHide x = Check.told("place 1;place 9;seeker 7 0;seeker 20 0 0 0;");
        x.looks(1, 0);
        x.looks(1, 1);
        x.week();
        int[][] want = {{7, 7, 6, 14, 6, 8}, {20, 22, 17, 44, 18, 21}};
        for (int k = 0; k < 2; k++) {
            for (int kind = 0; kind < 6; kind++) {
                due("mark(" + kind + ", " + k + ")", x.mark(kind, k), want[k][kind]);
            }
        }
        due("below 0", Check.told("place 1;seeker 0 0 0 0 0 0;").mark(2, 0), -5);
        due("mark(6, 0)", x.mark(6, 0), NO);
        due("mark(-1, 0)", x.mark(-1, 0), NO);
        due("mark(0, 2)", x.mark(0, 2), NO);
        due("mark(0, -1)", x.mark(0, -1), NO);
    }

    private static void promise23and24Images() {
        FindersHide x = Check.told("place 1;place 1;place 1;seeker 1 0 1 2;law 2;");
        x.week();
        x.saw(0, 0, 1);
        int ring = x.now(0);
        int lot = x.lot(1);
        x.lot(lot);
        due("keep(1)", x.keep(1), 1);
        due("back(0)", x.back(0), STATE);
        for (int w = 0; w < 4; w++) {
            x.week();
        }
        x.saw(3, 0, 1);
        x.looks(0, x.now(0));
        due("keep(0)", x.keep(0), 5);
        x.mark(0, 0);
        x.type(0x20L, 1);
        due("back(1)", x.back(1), 1);
        due("week", x.now(1), 1);
        due("ring", x.now(0), ring);
        due("had", x.now(3), 1);
        due("habit", x.seeker(0, 2), 1);
        due("seen", x.count(2), 1);
        due("lot", x.lot(9), lot);
        due("the text stays", x.count(3), 1);
        due("the trace stays", x.trace(), 1);
        due("seen is as it was", x.could(0), 1);
        x.forget();
        due("back again", x.back(1), 1);
        due("an image is not changed", x.count(2), 1);
        due("the other", x.back(0), 5);
        due("seen", x.count(2), 2);
        due("keep(2)", x.keep(2), BAD);
        due("keep(-1)", x.keep(-1), BAD);
        due("back(2)", x.back(2), BAD);
        due("back(-1)", x.back(-1), BAD);
        imagesHaveAll();
        FindersHide none = new FindersHide();
        due("of nothing", none.keep(0), 0);
        due("back to nothing", none.back(0), 0);
        due("nowhere", none.now(0), NONE);
    }

    private static void imagesHaveAll() {
        FindersHide x = Check.told("place 1;place 2;place 3;seeker 1 0;seeker 2 1 0;");
        x.week();
        x.week();
        x.saw(0, 0, 1);
        x.saw(0, 1, 1);
        x.keep(0);
        due("seen so", x.could(0), 1);
        x.puts(1);
        x.forget();
        x.saw(1, 1, 0);
        x.saw(1, 0, 1);
        x.week();
        due("seen not so", x.could(0), 0);
        due("back(0)", x.back(0), 2);
        due("ring", x.now(0), 2);
        due("seen so again", x.could(0), 1);
        due("had", x.seeker(1, 3), 1);
        due("habit", x.seeker(1, 2), 0);
    }

    private static void promise25Count() {
        FindersHide x = Check.told("place 1;place 1;place 1;seeker 1 0 1 2;seeker 2 0;");
        x.week();
        x.saw(0, 1, 0);
        x.type(0L, 5);
        int[] want = {3, 2, 1, 5};
        for (int what = 0; what < 4; what++) {
            due("count(" + what + ")", x.count(what), want[what]);
        }
        due("count(4)", x.count(4), BAD);
        due("count(-1)", x.count(-1), BAD);
    }

    private static void promise26Trace() {
        FindersHide x = Check.told("place 1;seeker 1 0;");
        long[] want = {1, 11, 101, 1011, 10101, 100001};
        long sum = 0;
        for (int kind = 0; kind < 6; kind++) {
            x.mark(kind, 0);
            sum += want[kind];
            due("trace behind mark(" + kind + ")", x.trace(), sum);
        }
        x.mark(6, 0);
        x.mark(0, 1);
        due("refused ones leave it", x.trace(), sum);
    }

    /** Whatever the numbers are, no call throws. */
    private static void wildNumbers() {
        int[] wild = {Integer.MIN_VALUE, -1, 0, 1, 3, 5, 6, 31, 32, 64, Integer.MAX_VALUE};
        String[] towns = {"", "place 9;", "place 1;place 2;seeker 30 1 0;law 2;"};
        for (String town : towns) {
            for (int a : wild) {
                for (int b : wild) {
                    FindersHide x = Check.told(town);
                    x.week();
                    x.type(Long.MIN_VALUE, a);
                    x.place(a, b);
                    x.seeker(a, b);
                    x.habit(a, b);
                    x.puts(a);
                    x.looks(a, b);
                    x.now(a);
                    x.lot(a);
                    x.lies(a);
                    x.lots(a, b);
                    x.sweep(a);
                    x.order(a);
                    x.could(a);
                    x.mark(a, b);
                    x.keep(a);
                    x.back(b);
                    x.count(a);
                    for (int c : wild) {
                        x.odds(a, b, c);
                        x.saw(a, b, c);
                    }
                    x.week();
                    due("asked", x.clear() >= 0 ? 1 : 0, 1);
                }
            }
        }
    }
}
