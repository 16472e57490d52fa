/** LIES, LONGEST, ODDS, LOTS, SWEEP and FIRST at their edges. */
final class LiesEdgesTest {
    private static final int NONE = -9;

    private LiesEdgesTest() {
    }

    public static void main(String[] args) {
        liesFrom1To5();
        liesFromNow();
        liesOrNone();
        liesWhereSomebodyIsFirst();
        liesInTheLastWeeks();
        longestOfSeveral();
        longestIsNone();
        oddsAfterNoWeek();
        oddsOfNobody();
        oddsOfOneFind();
        oddsOfTwoFinds();
        oddsOfEightFinds();
        oddsWhereUsedUp();
        oddsWhateverTheLaw();
        oddsFromNow();
        oddsSeekerBySeeker();
        oddsTogether();
        lotsOfOne();
        lotsOfTwo();
        lotsOfSix();
        sweepAtItsEdges();
        orderAtItsEdges();
        orderOfSeveral();
        Check.finish("LiesEdgesTest");
    }

    private static void due(String call, long got, long want) {
        Check.due(call, got, want);
    }

    // ---- lies, longest

    /** One look a week, and a HABIT of five: the next WEEK is the first, the fifth from now the last that can be. */
    private static void liesFrom1To5() {
        FindersHide x = Check.told("place 3;".repeat(6) + "seeker 3 0 1 2 3 4;");
        for (int p = 0; p < 5; p++) {
            due("lies(" + p + ")", x.lies(p), p + 1);
        }
        due("lies(5)", x.lies(5), NONE);
    }

    private static void liesFromNow() {
        FindersHide x = Check.told("place 3;".repeat(6) + "seeker 3 0 1 2 3 4;ring 5;");
        for (int w = 0; w < 12; w++) {
            for (int p = 0; p < 5; p++) {
                due("week " + w + ": lies(" + p + ")", x.lies(p), (p + 5 - w % 5) % 5 + 1);
            }
            due("week " + w + ": lies(5)", x.lies(5), NONE);
            due("week " + w + ": longest", x.longest(), 5);
            x.week();
        }
    }

    private static void liesOrNone() {
        due("nobody", Check.told("place 1;").lies(0), NONE);
        due("no minutes", Check.told("place 1;seeker 0 0;").lies(0), NONE);
        due("too few minutes", Check.told("place 9;seeker 8 0;").lies(0), NONE);
        due("just enough", Check.told("place 9;seeker 9 0;").lies(0), 1);
        due("behind what is too hard", Check.told(Check.places(1, 9) + "seeker 8 1 0;").lies(0), NONE);
        due("ahead of what is too hard", Check.told(Check.places(1, 9) + "seeker 8 0 1;").lies(0), 1);
        due("in nobody's habit", Check.told(Check.places(1, 1) + "seeker 30 0;seeker 30 0 0 0;").lies(1), NONE);
        due("used up: found all the same", Check.told(Check.places(1, 9) + "seeker 9 1;").lies(1), 1);
        due("where the ring is not", Check.told(Check.places(1, 1) + "seeker 1 1;ring 0;").lies(1), 1);
    }

    private static void liesWhereSomebodyIsFirst() {
        FindersHide x = Check.told("place 2;".repeat(4) + "seeker 2 0 1 2 3;seeker 2 3 2 1 0;");
        int[] want = {1, 2, 2, 1};
        for (int p = 0; p < 4; p++) {
            due("of two seekers: lies(" + p + ")", x.lies(p), want[p]);
        }
    }

    private static void liesInTheLastWeeks() {
        for (int week : new int[] {97, 98, 99}) {
            FindersHide x = Check.told("place 3;".repeat(6) + "seeker 3 0 1 2 3 4;ring 5;");
            for (int w = 0; w < week; w++) {
                x.week();
            }
            for (int p = 0; p < 5; p++) {
                due("from week " + week + ": lies(" + p + ")", x.lies(p), (p + 5 - week % 5) % 5 + 1);
            }
            due("odds, too", x.odds(2, 5, 0), 1);
        }
    }

    private static void longestOfSeveral() {
        due("no place", new FindersHide().longest(), NONE);
        due("no place, though read", Check.told("law 1;").longest(), NONE);
        due("one", Check.told("place 1;seeker 1 0;").longest(), 0);
        due("one, nobody", Check.told("place 1;").longest(), 0);
        due("all alike", Check.told("place 1;".repeat(6) + "seeker 6 0 1 2;seeker 6 3 4 5;").longest(), 0);
        due("the last alone", Check.told("place 1;".repeat(5) + "seeker 1 0 1 2 3 4;").longest(), 4);
        due("the first alone", Check.told("place 1;".repeat(5) + "seeker 1 1 2 3 4 0;").longest(), 0);
        due("the least of two", Check.told("place 1;".repeat(6) + "seeker 2 0 5 1 4 3;seeker 1 2;").longest(), 3);
        due("the least of two, read backwards", Check.told("place 1;".repeat(6) + "seeker 2 0 5 4 3 1;seeker 2 2;").longest(), 1);
        due("two alike", Check.told("place 1;".repeat(4) + "seeker 2 0 1 3 2;").longest(), 2);
    }

    private static void longestIsNone() {
        String six = "place 1;".repeat(6);
        due("behind those that are found", Check.told(six + "seeker 1 0 1 2 3 4;").longest(), 5);
        due("ahead of those that are found", Check.told(six + "seeker 1 1 2 3 4 5;").longest(), 0);
        due("between", Check.told(six + "seeker 1 0 1 2 4 5;").longest(), 3);
        due("the least of several", Check.told(six + "seeker 1 0 2 3;").longest(), 1);
        due("all are none", Check.told(six).longest(), 0);
    }

    // ---- odds

    private static void fraction(FindersHide x, int n, int p, long upper, long lower) {
        Check.dueFraction("odds(" + n + ", " + p + ")", x.odds(n, p, 0), x.odds(n, p, 1), upper, lower);
    }

    private static void oddsAfterNoWeek() {
        for (int ring = 0; ring < 6; ring++) {
            FindersHide x = Check.told("place 1;".repeat(6) + "seeker 30 0 1 2 3 4;ring " + ring + ";law 2;");
            for (int p = 0; p < 6; p++) {
                fraction(x, 0, p, p == ring ? 1 : 0, 1);
            }
        }
    }

    private static void oddsOfNobody() {
        FindersHide x = Check.told(Check.places(1, 1) + "ring 1;law 2;");
        for (int n = 0; n <= 2; n++) {
            fraction(x, n, 0, 0, 1);
            fraction(x, n, 1, 1, 1);
        }
        FindersHide one = Check.told("place 1;");
        for (int n = 0; n <= 2; n++) {
            fraction(one, n, 0, 1, 1);
        }
    }

    /** 1 to 5 PLACES NO WORSE, each as likely. */
    private static void oddsOfOneFind() {
        for (int many = 1; many <= 5; many++) {
            FindersHide x = Check.told("place 1;".repeat(many + 1) + "seeker 1 0;");
            fraction(x, 1, 0, 0, 1);
            for (int p = 1; p <= many; p++) {
                fraction(x, 1, p, 1, many);
                fraction(x, 2, p, 1, many);
            }
        }
        FindersHide apart = Check.told(Check.places(5, 1, 9, 4, 5, 6) + "seeker 5 0;");
        int[] share = {0, 0, 1, 0, 1, 1};
        for (int p = 0; p < 6; p++) {
            fraction(apart, 1, p, share[p], share[p] == 0 ? 1 : 3);
        }
    }

    /** Uphill: of what is one step up 1 in 5, then 1 in 4, 3, 2 of these: sixtieths. */
    private static void oddsOfTwoFinds() {
        String habits = "seeker 30 0 1 2 3 4;seeker 30 0 1 2 3 4;";
        FindersHide x = Check.told(Check.places(1, 2, 3, 4, 5, 6) + habits);
        long[] upper = {0, 0, 1, 7, 13, 37};
        long[] lower = {1, 1, 20, 60, 60, 60};
        for (int p = 0; p < 6; p++) {
            fraction(x, 1, p, upper[p], lower[p]);
        }
        FindersHide one = Check.told(Check.places(1, 2, 3, 4, 5, 6) + "seeker 15 0 1 2 3 4;");
        // He finds it at p first, then goes on behind p: 15 MINUTES are all five PLACES.
        for (int p = 0; p < 6; p++) {
            fraction(one, 2, p, upper[p], lower[p]);
        }
    }

    /** It stays at PLACE 5; elsewhere all four find it, and 1 in 5 goes to each other PLACE: fifths to the 8th. */
    private static void oddsOfEightFinds() {
        FindersHide x = Check.told("place 1;".repeat(6) + "seeker 30 0 1 2 3 4;".repeat(4));
        fraction(x, 1, 5, 369, 625);
        fraction(x, 1, 0, 52, 625);
        fraction(x, 2, 5, 325089, 390625);
        fraction(x, 2, 0, 13108, 390625);
        for (int p = 1; p < 5; p++) {
            fraction(x, 1, p, 51, 625);
            fraction(x, 2, p, 13107, 390625);
        }
    }

    private static void oddsWhereUsedUp() {
        FindersHide x = Check.told(Check.places(3, 8, 8, 9) + "seeker 9 3;seeker 9 3;ring 3;");
        for (int n = 0; n <= 2; n++) {
            fraction(x, n, 3, 1, 1);
            fraction(x, n, 0, 0, 1);
        }
        FindersHide one = Check.told("place 1;seeker 1 0;seeker 1 0;");
        for (int n = 0; n <= 2; n++) {
            fraction(one, n, 0, 1, 1);
        }
    }

    private static void oddsWhateverTheLaw() {
        for (int law = 0; law <= 2; law++) {
            for (int lot : new int[] {0, 1, -1, Integer.MAX_VALUE}) {
                FindersHide x = Check.told(Check.places(2, 2, 3, 1) + "seeker 2 0 2;law " + law + ";");
                x.lot(lot);
                fraction(x, 1, 0, 0, 1);
                fraction(x, 1, 1, 1, 2);
                fraction(x, 1, 2, 1, 2);
                fraction(x, 1, 3, 0, 1);
                fraction(x, 2, 1, 1, 2);
            }
        }
    }

    private static void oddsFromNow() {
        FindersHide x = Check.told("place 1;".repeat(3) + "seeker 1 0 1 2;ring 2;");
        x.week();
        x.puts(0);
        fraction(x, 1, 0, 1, 1);
        x.puts(1);
        fraction(x, 1, 1, 0, 1);
        fraction(x, 1, 0, 1, 2);
        fraction(x, 1, 2, 1, 2);
        // At 2 he finds it in the second week: to 0 or 1.
        fraction(x, 2, 0, 3, 4);
        fraction(x, 2, 1, 1, 4);
        fraction(x, 2, 2, 0, 1);
    }

    private static void oddsSeekerBySeeker() {
        // The first finds nothing ever; the second in the first WEEK, and half of the times in the second.
        FindersHide x = Check.told("place 1;".repeat(3) + "seeker 0 0;seeker 1 0 1 2;");
        fraction(x, 1, 0, 0, 1);
        fraction(x, 1, 1, 1, 2);
        fraction(x, 2, 0, 1, 4);
        fraction(x, 2, 1, 0, 1);
        fraction(x, 2, 2, 3, 4);
        // Whichever way the first WEEK goes, the second SEEKER looks in 1 in it, and in 2 in the second.
        FindersHide y = Check.told("place 1;".repeat(3) + "seeker 1 0;seeker 1 1 2;");
        fraction(y, 1, 0, 1, 4);
        fraction(y, 1, 1, 0, 1);
        fraction(y, 1, 2, 3, 4);
        fraction(y, 2, 0, 7, 16);
        fraction(y, 2, 1, 9, 16);
        fraction(y, 2, 2, 0, 1);
        // The second looks on behind where he found it: in 2 and 0 in the one case, in 0 and 1 in the other.
        FindersHide z = Check.told("place 1;".repeat(3) + "seeker 1 0 0;seeker 2 1 2 0;");
        fraction(z, 1, 0, 1, 2);
        fraction(z, 1, 1, 1, 4);
        fraction(z, 1, 2, 1, 4);
        fraction(z, 2, 0, 3, 8);
        fraction(z, 2, 1, 5, 16);
        fraction(z, 2, 2, 5, 16);
        FindersHide w = Check.told("place 1;".repeat(4) + "seeker 1 0;seeker 3 3 2 0;");
        fraction(w, 1, 0, 2, 9);
        fraction(w, 1, 1, 5, 9);
        fraction(w, 1, 2, 1, 9);
        fraction(w, 1, 3, 1, 9);
    }

    private static long gcd(long a, long b) {
        return b == 0 ? a : gcd(b, a % b);
    }

    /** All ODDS together are one, and each is in least terms. */
    private static void oddsTogether() {
        String[] towns = {Check.places(1, 2, 2, 1, 3, 1) + "seeker 7 0 1 2 3;seeker 5 3 5 0;seeker 30 2 1 0;seeker 4 5 4 0 3 1;",
            Check.places(2, 2, 2, 5, 5) + "seeker 8 0 1 2;seeker 9 3 0;seeker 3 1 2;",
            Check.places(1, 1, 1, 1) + "seeker 2 0 1 2 3;seeker 3 3 2 1 0;seeker 1 0 2;seeker 2 1;"};
        for (String town : towns) {
            FindersHide x = Check.told(town);
            for (int n = 0; n <= 2; n++) {
                long whole = 167961600000000L;
                long sum = 0;
                for (int p = 0; p < x.count(0); p++) {
                    long upper = x.odds(n, p, 0);
                    long lower = x.odds(n, p, 1);
                    due("least terms", gcd(upper, lower), 1);
                    due("a divisor of 60 to the 8th", whole % lower, 0);
                    sum += upper * (whole / lower);
                }
                due("odds after " + n + " of " + town, sum, whole);
            }
        }
    }

    // ---- lots

    private static void lots(FindersHide x, int p, long upper, long lower, long all) {
        Check.dueFraction("lots(" + p + ")", x.lots(p, 0), x.lots(p, 1), upper, lower);
        Check.dueFraction("lots(" + p + "), found", x.lots(p, 2), x.lots(p, 3), 1, all);
    }

    private static void lotsOfOne() {
        for (int h = 1; h <= 9; h++) {
            lots(Check.told(Check.places(h)), 0, 1, 1, h);
        }
    }

    private static void lotsOfTwo() {
        for (int a = 1; a <= 9; a++) {
            for (int b = 1; b <= 9; b++) {
                FindersHide x = Check.told(Check.places(a, b));
                long part = gcd(a, a + b);
                lots(x, 0, a / part, (a + b) / part, a + b);
                lots(x, 1, b / part, (a + b) / part, a + b);
            }
        }
    }

    private static void lotsOfSix() {
        FindersHide most = Check.told(Check.places(9, 9, 9, 9, 9, 9));
        FindersHide least = Check.told(Check.places(1, 1, 1, 1, 1, 1));
        for (int p = 0; p < 6; p++) {
            lots(most, p, 1, 6, 54);
            lots(least, p, 1, 6, 6);
        }
        FindersHide x = Check.told(Check.places(9, 1, 8, 2, 7, 3));
        long[] upper = {3, 1, 4, 1, 7, 1};
        long[] lower = {10, 30, 15, 15, 30, 10};
        for (int p = 0; p < 6; p++) {
            lots(x, p, upper[p], lower[p], 30);
        }
    }

    // ---- sweep, first

    private static void sweep(String text, int all, int upper, int lower) {
        FindersHide x = Check.told(text);
        due("sweep(0) of " + text, x.sweep(0), all);
        due("sweep(1) of " + text, x.sweep(1), upper);
        due("sweep(2) of " + text, x.sweep(2), lower);
    }

    private static void sweepAtItsEdges() {
        sweep("", 0, 0, 1);
        sweep("law 2;", 0, 0, 1);
        for (int h = 1; h <= 9; h++) {
            sweep(Check.places(h), h, h, 1);
        }
        sweep(Check.places(1, 1), 2, 3, 2);
        sweep(Check.places(2, 2), 4, 3, 1);
        sweep(Check.places(9, 1), 10, 11, 2);
        sweep(Check.places(1, 9), 10, 11, 2);
        sweep(Check.places(1, 1, 1, 1, 1, 1), 6, 7, 2);
        sweep(Check.places(9, 9, 9, 9, 9, 9), 54, 63, 2);
        // 1, 3, 6, 10, 15, 21: 56 by 6
        sweep(Check.places(6, 5, 4, 3, 2, 1), 21, 28, 3);
        sweep(Check.places(1, 2, 3, 4, 5, 6) + "seeker 30 0;seeker 1 0;", 21, 28, 3);
        // 1, 3, 6: 10 by 3
        sweep(Check.places(3, 2, 1), 6, 10, 3);
    }

    private static void orderAtItsEdges() {
        due("none", new FindersHide().order(0), -5);
        for (int many = 1; many <= 6; many++) {
            FindersHide x = Check.told("place 5;".repeat(many));
            for (int i = 0; i < many; i++) {
                due("of those as hard the least ahead", x.order(i), i);
            }
            due("the first that is not there", x.order(many), -5);
            due("far behind", x.order(Integer.MAX_VALUE), -5);
        }
    }

    private static void order(String text, int... want) {
        FindersHide x = Check.told(text);
        for (int i = 0; i < want.length; i++) {
            due("order(" + i + ") of " + text, x.order(i), want[i]);
        }
    }

    private static void orderOfSeveral() {
        order(Check.places(6, 5, 4, 3, 2, 1), 5, 4, 3, 2, 1, 0);
        order(Check.places(1, 2, 3, 4, 5, 6), 0, 1, 2, 3, 4, 5);
        order(Check.places(9, 1, 9, 1, 9, 1), 1, 3, 5, 0, 2, 4);
        order(Check.places(2, 3, 2, 1, 3, 1), 3, 5, 0, 2, 1, 4);
        order(Check.places(9, 9, 8), 2, 0, 1);
    }
}
