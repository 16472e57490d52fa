import java.util.Random;

/** Runs of calls by lot, put to the class and to the oracle: 512 calls an object at most. */
final class OracleTest {
    private static final int RUNS = 6000;
    private static final int CALLS = 512;
    private static final int[] WILD = {Integer.MIN_VALUE, -1000000, -33, -9, -2, -1, 6, 7, 8, 9, 32, 33, 99, 100, 1 << 30,
        Integer.MAX_VALUE};

    private final Random random;
    private final int run;
    private final FindersHide x = new FindersHide();
    private final Oracle o = new Oracle();
    private int calls = 0;

    private OracleTest(int run) {
        this.run = run;
        this.random = new Random(run);
    }

    public static void main(String[] args) {
        for (int run = 0; run < RUNS; run++) {
            new OracleTest(run).go();
        }
        Check.finish("OracleTest");
    }

    private void go() {
        // Some runs stay with one town, so that weeks come to 99.
        int towns = random.nextInt(3) == 0 ? 1 : 2 + random.nextInt(8);
        int each = CALLS / towns;
        for (int t = 0; t < towns; t++) {
            tell(random.nextInt(4) == 0 ? spoilt(townText()) : townText());
            int end = Math.min(CALLS, calls + each);
            int weeks = random.nextInt(12);
            while (calls < end) {
                if (random.nextInt(12) < weeks) {
                    due("week()", x.week(), o.week());
                } else {
                    ask();
                }
            }
        }
    }

    private void due(String call, long got, long want) {
        calls++;
        Check.due("run " + run + " call " + calls + " " + call, got, want);
    }

    private String blanks(int least) {
        int many = random.nextInt(12) == 0 ? least + random.nextInt(3) : least;
        return " ".repeat(many);
    }

    private String townText() {
        StringBuilder b = new StringBuilder();
        int places = random.nextInt(8) == 0 ? random.nextInt(2) : 2 + random.nextInt(5);
        int most = random.nextBoolean() ? 9 : 1 + random.nextInt(4);
        int seekers = places == 0 ? 0 : random.nextInt(5);
        for (int p = 0; p < places; p++) {
            b.append(blanks(0)).append("place").append(blanks(1)).append(1 + random.nextInt(most)).append(blanks(0)).append(';');
        }
        int ringAhead = random.nextInt(3);
        if (ringAhead == 0 && places > 0) {
            b.append("ring").append(blanks(0)).append(random.nextInt(places)).append(blanks(0)).append(';');
        }
        for (int k = 0; k < seekers; k++) {
            b.append("seeker ").append(random.nextBoolean() ? random.nextInt(31) : random.nextInt(10));
            int habit = 1 + random.nextInt(5);
            for (int i = 0; i < habit; i++) {
                b.append(blanks(1)).append(random.nextInt(places));
            }
            b.append(blanks(0)).append(';');
        }
        if (random.nextInt(4) != 0) {
            b.append("law ").append(random.nextInt(3)).append(';');
        }
        if (ringAhead == 1 && places > 0) {
            b.append("ring ").append(random.nextInt(places)).append("; ");
        }
        return b.toString();
    }

    private String spoilt(String text) {
        StringBuilder b = new StringBuilder(text);
        String[] parts = {";", " ", "place 1;", "seeker 3 0;", "ring 0;", "law 1;", "law", "0", "9", "10", "31", "99", "100", "00",
            "a", "A", "\t", "\0", "\u00ff", "\u0080", "99999999999", "place", "seeker", "placering", "{", "`", "/", ":", "-"};
        int times = 1 + random.nextInt(3);
        for (int i = 0; i < times; i++) {
            int at = random.nextInt(b.length() + 1);
            switch (random.nextInt(4)) {
                case 0: b.delete(at, Math.min(b.length(), at + 1 + random.nextInt(4))); break;
                case 1: b.setLength(at); break;
                default: b.insert(at, parts[random.nextInt(parts.length)]);
            }
        }
        return b.toString();
    }

    private void tell(String text) {
        int at = 0;
        while (at < text.length()) {
            int n = Math.min(text.length() - at, random.nextInt(4) == 0 ? 1 + random.nextInt(8) : 8);
            long v = random.nextLong();
            for (int i = 0; i < n; i++) {
                v = v << 8 | text.charAt(at + i);
            }
            due("type(" + v + ", " + n + ")", x.type(v, n), o.type(v, n));
            at += n;
        }
        int items = o.town();
        due("town() of '" + text + "'", x.town(), items);
        if (items < 0 && random.nextInt(4) != 0) {
            due("clear()", x.clear(), o.clear());
        }
    }

    private int some(int many) {
        return random.nextInt(25) == 0 ? WILD[random.nextInt(WILD.length)] : random.nextInt(many);
    }

    private void ask() {
        int p = some(6);
        int k = some(4);
        int what = some(4);
        switch (random.nextInt(26)) {
            case 0: askType(); break;
            case 1: due("clear()", x.clear(), o.clear()); break;
            case 2: if (random.nextInt(20) == 0) due("town()", x.town(), o.town()); break;
            case 3: due("place(" + p + ", " + what + ")", x.place(p, what), o.place(p, what)); break;
            case 4: due("seeker(" + k + ", " + what + ")", x.seeker(k, what), o.seeker(k, what)); break;
            case 5: due("habit(" + k + ", " + p + ")", x.habit(k, p), o.habit(k, p)); break;
            case 6: due("puts(" + p + ")", x.puts(p), o.puts(p)); break;
            case 7: due("looks(" + k + ", " + p + ")", x.looks(k, p), o.looks(k, p)); break;
            case 8: due("now(" + what + ")", x.now(what), o.now(what)); break;
            case 9: askLot(); break;
            case 10: due("lies(" + p + ")", x.lies(p), o.lies(p)); break;
            case 11: due("longest()", x.longest(), o.longest()); break;
            case 12: case 13: case 14: askOdds(p); break;
            case 15: due("lots(" + p + ", " + what + ")", x.lots(p, what), o.lots(p, what)); break;
            case 16: what = some(3); due("sweep(" + what + ")", x.sweep(what), o.sweep(what)); break;
            case 17: due("order(" + p + ")", x.order(p), o.order(p)); break;
            case 18: askSaw(k); break;
            case 19: if (random.nextInt(4) == 0) due("forget()", x.forget(), o.forget()); break;
            case 20: case 21: what = some(2); due("could(" + what + ")", x.could(what), o.could(what)); break;
            case 22: due("mark(" + p + ", " + k + ")", x.mark(p, k), o.mark(p, k)); break;
            case 23: what = some(2); due("keep(" + what + ")", x.keep(what), o.keep(what)); break;
            case 24: what = some(2); due("back(" + what + ")", x.back(what), o.back(what)); break;
            default: due("count(" + what + ")", x.count(what), o.count(what)); due("trace()", x.trace(), o.trace());
        }
    }

    private void askType() {
        long v = random.nextLong();
        int n = random.nextInt(6) == 0 ? some(12) : 1 + random.nextInt(8);
        due("type(" + v + ", " + n + ")", x.type(v, n), o.type(v, n));
    }

    private void askLot() {
        int v = random.nextInt();
        due("lot(" + v + ")", x.lot(v), o.lot(v));
    }

    private void askOdds(int p) {
        int n = some(3);
        for (int what = 0; what < 2; what++) {
            due("odds(" + n + ", " + p + ", " + what + ")", x.odds(n, p, what), o.odds(n, p, what));
        }
    }

    private void askSaw(int k) {
        int week = some(Math.max(1, Math.min(6, x.now(1))));
        int found = some(2);
        due("saw(" + week + ", " + k + ", " + found + ")", x.saw(week, k, found), o.saw(week, k, found));
    }
}
