import java.util.Arrays;

/** A ring that is hidden again by whoever finds it, in a town of places and seekers. */
public final class FindersHide {
    public static final int BAD = -1, STATE = -2, FULL = -3, NONE = -9;
    public static final int NO = -1000000;

    private static final int NOT_SO_MANY = -5;
    private static final int FAULTS = -10;

    private static final int MOST_BYTES = 200;
    private static final int MOST_PLACES = 6;
    private static final int MOST_SEEKERS = 4;
    private static final int MOST_HARD = 9;
    private static final int MOST_MINUTES = 30;
    private static final int MOST_HABIT = 5;
    private static final int MOST_WEEKS = 99;
    private static final int MOST_SEEN = 8;
    private static final int MOST_IMAGES = 2;
    private static final int WEEKS_AHEAD = 50;

    private static final int NEAR = 0;
    private static final int FAR = 1;
    private static final int BY_LOT = 2;

    private final Text text = new Text();
    private Town town = new Town();
    private Town spare = new Town();
    private final State state = new State();
    private final State trial = new State();
    private final State[] images = new State[MOST_IMAGES];
    private final boolean[] kept = new boolean[MOST_IMAGES];
    private final Chances chances = new Chances();
    private final SeekerKind[] kinds = new SeekerKind[6];

    public FindersHide() {
        for (int i = 0; i < MOST_IMAGES; i++) {
            images[i] = new State();
        }
        kinds[0] = new SeekerKind();
        kinds[1] = new FinderKind();
        kinds[2] = new ChildKind();
        kinds[3] = new HiderKind();
        kinds[4] = new OrphanKind();
        kinds[5] = new MayorKind();
    }

    // ---- the town

    public int type(long v, int n) {
        if (n < 1 || n > 8) {
            return BAD;
        }
        if (text.length > MOST_BYTES - n) {
            return FULL;
        }
        text.append(v, n);
        return text.length;
    }

    public int clear() {
        int had = text.length;
        text.length = 0;
        return had;
    }

    public int town() {
        // What is told goes to the spare town, so that a fault leaves the old one as it was.
        int items = text.tellTo(spare);
        if (items < 0) {
            return items;
        }
        Town told = spare;
        spare = town;
        town = told;
        state.begin(told.ring);
        for (int i = 0; i < MOST_IMAGES; i++) {
            kept[i] = false;
        }
        text.length = 0;
        return items;
    }

    public int place(int p, int what) {
        if (!town.isPlace(p)) {
            return BAD;
        }
        switch (what) {
            case 0: return town.hard[p];
            case 1: return town.noWorse[p] == 0 ? 1 : 0;
            case 2: return town.noWorse[p];
            default: return BAD;
        }
    }

    public int seeker(int k, int what) {
        if (!town.isSeeker(k)) {
            return BAD;
        }
        switch (what) {
            case 0: return town.minutes[k];
            case 1: return town.lengths[k];
            case 2: return state.next[k];
            case 3: return state.had[k];
            default: return BAD;
        }
    }

    public int habit(int k, int i) {
        if (!town.isSeeker(k) || i < 0) {
            return BAD;
        }
        return i < town.lengths[k] ? town.habits[k][i] : NOT_SO_MANY;
    }

    // ---- weeks

    public int puts(int p) {
        if (!town.isPlace(p)) {
            return BAD;
        }
        int was = state.ring;
        state.ring = p;
        return was;
    }

    public int looks(int k, int p) {
        if (!town.isSeeker(k) || !town.isPlace(p)) {
            return BAD;
        }
        if (state.ring != p) {
            return NONE;
        }
        state.foundBy(k, town, town.law);
        return state.ring;
    }

    public int week() {
        if (state.week >= MOST_WEEKS || town.places == 0) {
            return STATE;
        }
        return Integer.bitCount(state.passWeek(town, town.law));
    }

    public int now(int what) {
        switch (what) {
            case 0: return state.ring;
            case 1: return state.week;
            case 2: return town.law;
            case 3: return state.hadByAll();
            default: return BAD;
        }
    }

    public int lot(int v) {
        int was = state.lot;
        state.lot = v;
        return was;
    }

    // ---- where it lies

    public int lies(int p) {
        return town.isPlace(p) ? weeksLying(p) : BAD;
    }

    public int longest() {
        int best = NONE;
        int most = 0;
        for (int p = 0; p < town.places; p++) {
            int weeks = weeksLying(p);
            if (weeks == NONE) {
                return p;
            }
            if (weeks > most) {
                most = weeks;
                best = p;
            }
        }
        return best;
    }

    public long odds(int n, int p, int what) {
        if (n < 0 || n > 2 || !town.isPlace(p) || what < 0 || what > 1) {
            return BAD;
        }
        chances.goOn(town, state, n);
        return leastTerm(chances.after[p], Chances.WHOLE, what);
    }

    public int lots(int p, int what) {
        if (!town.isPlace(p) || what < 0 || what > 3) {
            return BAD;
        }
        // Shares as HARD make each PLACE as good as any other, for hider and seeker alike.
        if (what < 2) {
            return (int) leastTerm(town.hard[p], town.hardOfAll, what);
        }
        return what == 2 ? 1 : town.hardOfAll;
    }

    public int sweep(int what) {
        if (what < 0 || what > 2) {
            return BAD;
        }
        if (what == 0) {
            return town.hardOfAll;
        }
        return (int) leastTerm(town.minutesOfFirst(), Math.max(1, town.places), what - 1);
    }

    public int order(int i) {
        if (i < 0) {
            return BAD;
        }
        return i < town.places ? town.order[i] : NOT_SO_MANY;
    }

    // ---- what was seen

    public int saw(int week, int k, int found) {
        if (week < 0 || week >= state.week || !town.isSeeker(k) || found < 0 || found > 1) {
            return BAD;
        }
        if (state.seen >= MOST_SEEN) {
            return FULL;
        }
        state.addSeen(week, k, found);
        return state.seen;
    }

    public int forget() {
        int had = state.seen;
        state.seen = 0;
        return had;
    }

    public int could(int what) {
        if (what < 0 || what > 1) {
            return BAD;
        }
        int bits = 0;
        for (int p = 0; p < town.places; p++) {
            if (canHaveBegunAt(p)) {
                bits |= 1 << (what == 0 ? p : trial.ring);
            }
        }
        return bits;
    }

    // ---- kinds, images

    public int mark(int kind, int k) {
        if (kind < 0 || kind >= kinds.length || !town.isSeeker(k)) {
            return NO;
        }
        return kinds[kind].worth(town, state, k);
    }

    public int keep(int image) {
        if (image < 0 || image >= MOST_IMAGES) {
            return BAD;
        }
        images[image].becomeAs(state);
        kept[image] = true;
        return state.week;
    }

    public int back(int image) {
        if (image < 0 || image >= MOST_IMAGES) {
            return BAD;
        }
        if (!kept[image]) {
            return STATE;
        }
        state.becomeAs(images[image]);
        return state.week;
    }

    public int count(int what) {
        switch (what) {
            case 0: return town.places;
            case 1: return town.seekers;
            case 2: return state.seen;
            case 3: return text.length;
            default: return BAD;
        }
    }

    public long trace() {
        long sum = 0;
        for (int i = 0; i < kinds.length; i++) {
            sum += kinds[i].traced;
        }
        return sum;
    }

    // ---- what several calls need

    /** LIES at a PLACE that there is. */
    private int weeksLying(int p) {
        trial.becomeAs(state);
        trial.ring = p;
        for (int week = 1; week <= WEEKS_AHEAD; week++) {
            if (trial.passWeek(town, town.law) != 0) {
                return week;
            }
        }
        return NONE;
    }

    /** Whether all that was SEEN is so, if THE RING was told at p; the trial is then as it would be now. */
    private boolean canHaveBegunAt(int p) {
        int law = town.law == BY_LOT ? NEAR : town.law;
        trial.begin(p);
        for (int week = 0; week < state.week; week++) {
            if (!state.sawNoOther(week, trial.passWeek(town, law))) {
                return false;
            }
        }
        return true;
    }

    /** The upper (what = 0) or the lower number (1) of a fraction in least terms. */
    private static long leastTerm(long upper, long lower, int what) {
        long a = upper;
        long b = lower;
        // Euclid's steps on two longs are fewer than a hundred.
        for (int step = 0; step < 200 && b != 0; step++) {
            long left = a % b;
            a = b;
            b = left;
        }
        long term = what == 0 ? upper : lower;
        return a == 0 ? term : term / a;
    }

    /** THE TEXT, and how it is read. */
    private static final class Text {
        private static final int END = 0;
        private static final int WRONG = 1;
        private static final int NUMBER = 2;
        private static final int SEMICOLON = 3;
        private static final int PLACE = 4;
        private static final int SEEKER = 5;
        private static final int RING = 6;
        private static final int LAW = 7;

        int length;
        private final int[] bytes = new int[MOST_BYTES];
        private int at;
        private int start;
        private int token;
        private int number;
        private boolean ringTold;
        private boolean lawTold;

        /** The lowest n bytes of v; there is room for them. */
        void append(long v, int n) {
            for (int i = n - 1; i >= 0 && length < MOST_BYTES; i--) {
                bytes[length] = (int) (v >>> (8 * i)) & 255;
                length++;
            }
        }

        /** How many ITEMS the text tells to a town; FAULTS less FAULT if it can't be read. */
        int tellTo(Town t) {
            t.empty();
            at = 0;
            ringTold = false;
            lawTold = false;
            readToken();
            int items = 0;
            while (token != END && items < MOST_BYTES) {
                if (!readsItem(t)) {
                    return FAULTS - start;
                }
                items++;
            }
            t.settle();
            return items;
        }

        /** False: the token that was read last can't stand where it does. */
        private boolean readsItem(Town t) {
            boolean reads;
            switch (token) {
                case PLACE: reads = readsPlace(t); break;
                case SEEKER: reads = readsSeeker(t); break;
                case RING: reads = readsRing(t); break;
                case LAW: reads = readsLaw(t); break;
                default: reads = false;
            }
            if (!reads || token != SEMICOLON) {
                return false;
            }
            readToken();
            return true;
        }

        private boolean readsPlace(Town t) {
            if (t.places >= MOST_PLACES) {
                return false;
            }
            readToken();
            if (!isNumber(1, MOST_HARD)) {
                return false;
            }
            t.addPlace(number);
            readToken();
            return true;
        }

        private boolean readsSeeker(Town t) {
            if (t.seekers >= MOST_SEEKERS) {
                return false;
            }
            readToken();
            if (!isNumber(0, MOST_MINUTES)) {
                return false;
            }
            t.addSeeker(number);
            int many = 0;
            readToken();
            while (many < MOST_HABIT && token == NUMBER) {
                if (!t.isPlace(number)) {
                    return false;
                }
                t.addHabit(number);
                many++;
                readToken();
            }
            return many > 0;
        }

        private boolean readsRing(Town t) {
            if (ringTold) {
                return false;
            }
            ringTold = true;
            readToken();
            if (!isNumber(0, t.places - 1)) {
                return false;
            }
            t.ring = number;
            readToken();
            return true;
        }

        private boolean readsLaw(Town t) {
            if (lawTold) {
                return false;
            }
            lawTold = true;
            readToken();
            if (!isNumber(NEAR, BY_LOT)) {
                return false;
            }
            t.law = number;
            readToken();
            return true;
        }

        private boolean isNumber(int least, int most) {
            return token == NUMBER && number >= least && number <= most;
        }

        private void readToken() {
            while (at < length && bytes[at] == ' ') {
                at++;
            }
            start = at;
            if (at >= length) {
                token = END;
            } else if (isLetter(bytes[at])) {
                readWord();
            } else if (isDigit(bytes[at])) {
                readDigits();
            } else {
                token = bytes[at] == ';' ? SEMICOLON : WRONG;
                at++;
            }
        }

        private void readWord() {
            while (at < length && isLetter(bytes[at])) {
                at++;
            }
            if (isWord("place")) {
                token = PLACE;
            } else if (isWord("seeker")) {
                token = SEEKER;
            } else if (isWord("ring")) {
                token = RING;
            } else if (isWord("law")) {
                token = LAW;
            } else {
                token = WRONG;
            }
        }

        private void readDigits() {
            number = 0;
            while (at < length && isDigit(bytes[at])) {
                // Held down, as a row of digits may be as long as the text.
                number = Math.min(100, number * 10 + bytes[at] - '0');
                at++;
            }
            boolean zeroAhead = bytes[start] == '0' && at - start > 1;
            token = number > 99 || zeroAhead ? WRONG : NUMBER;
        }

        private boolean isLetter(int sign) {
            return sign >= 'a' && sign <= 'z';
        }

        private boolean isDigit(int sign) {
            return sign >= '0' && sign <= '9';
        }

        private boolean isWord(String word) {
            if (at - start != word.length()) {
                return false;
            }
            for (int i = 0; i < word.length(); i++) {
                if (bytes[start + i] != word.charAt(i)) {
                    return false;
                }
            }
            return true;
        }
    }

    /** What THE TEXT told, and what follows from that alone. */
    private static final class Town {
        int places;
        int seekers;
        int law;
        int ring;
        int hardOfAll;
        final int[] hard = new int[MOST_PLACES];
        final int[] noWorse = new int[MOST_PLACES];
        final int[] nearest = new int[MOST_PLACES];
        final int[] farthest = new int[MOST_PLACES];
        final int[] order = new int[MOST_PLACES];
        final int[] minutes = new int[MOST_SEEKERS];
        final int[] lengths = new int[MOST_SEEKERS];
        final int[][] habits = new int[MOST_SEEKERS][MOST_HABIT];
        /** By SEEKER and where his HABIT stopped: PLACES (bits) that he looks in, if he finds nothing. */
        private final int[][] reach = new int[MOST_SEEKERS][MOST_HABIT];
        /** By the same: where his HABIT stops then. */
        private final int[][] stop = new int[MOST_SEEKERS][MOST_HABIT];

        Town() {
            ring = NONE;
        }

        boolean isPlace(int p) {
            return p >= 0 && p < places;
        }

        boolean isSeeker(int k) {
            return k >= 0 && k < seekers;
        }

        void empty() {
            places = 0;
            seekers = 0;
            law = NEAR;
            ring = NONE;
            hardOfAll = 0;
        }

        void addPlace(int minutesToLook) {
            if (places < MOST_PLACES) {
                hard[places] = minutesToLook;
                hardOfAll += minutesToLook;
                places++;
            }
        }

        void addSeeker(int minutesOfWeek) {
            if (seekers < MOST_SEEKERS) {
                minutes[seekers] = minutesOfWeek;
                lengths[seekers] = 0;
                seekers++;
            }
        }

        /** A PLACE more for the HABIT of the SEEKER who was added last. */
        void addHabit(int p) {
            int k = seekers - 1;
            if (isSeeker(k) && lengths[k] < MOST_HABIT) {
                habits[k][lengths[k]] = p;
                lengths[k]++;
            }
        }

        /** All is told: what follows from it. */
        void settle() {
            if (ring == NONE && places > 0) {
                ring = 0;
            }
            settleOrder();
            for (int p = 0; p < places; p++) {
                settleNoWorse(p);
            }
            for (int k = 0; k < seekers; k++) {
                for (int i = 0; i < lengths[k]; i++) {
                    settleReach(k, i);
                }
            }
        }

        private void settleOrder() {
            for (int p = 0; p < places; p++) {
                int rank = 0;
                for (int q = 0; q < places; q++) {
                    if (hard[q] < hard[p] || hard[q] == hard[p] && q < p) {
                        rank++;
                    }
                }
                order[rank] = p;
            }
        }

        private void settleNoWorse(int p) {
            noWorse[p] = 0;
            nearest[p] = p;
            farthest[p] = p;
            for (int q = 0; q < places; q++) {
                if (q != p && hard[q] >= hard[p]) {
                    boolean first = noWorse[p] == 0;
                    noWorse[p] |= 1 << q;
                    if (first || hard[q] < hard[nearest[p]]) {
                        nearest[p] = q;
                    }
                    if (first || hard[q] > hard[farthest[p]]) {
                        farthest[p] = q;
                    }
                }
            }
        }

        private void settleReach(int k, int from) {
            int left = minutes[k];
            int i = from;
            int bits = 0;
            // Each look costs a minute at least.
            for (int look = 0; look < MOST_MINUTES && left >= hard[habits[k][i]]; look++) {
                left -= hard[habits[k][i]];
                bits |= 1 << habits[k][i];
                i = behind(k, i);
            }
            reach[k][from] = bits;
            stop[k][from] = i;
        }

        /** The place in a HABIT behind the i-th, round and round. */
        private int behind(int k, int i) {
            return i + 1 < lengths[k] ? i + 1 : 0;
        }

        /** Whether a SEEKER whose HABIT stopped at from finds the ring at p in a WEEK. */
        boolean finds(int k, int from, int p) {
            return (reach[k][from] >> p & 1) != 0;
        }

        /** Where his HABIT stops after that WEEK. */
        int stopsAt(int k, int from, int p) {
            if (!finds(k, from, p)) {
                return stop[k][from];
            }
            int i = from;
            for (int look = 0; look < lengths[k] && habits[k][i] != p; look++) {
                i = behind(k, i);
            }
            return behind(k, i);
        }

        /** MINUTES till THE RING is found by FIRST, summed over all PLACES. */
        int minutesOfFirst() {
            int sum = 0;
            int gone = 0;
            for (int i = 0; i < places; i++) {
                gone += hard[order[i]];
                sum += gone;
            }
            return sum;
        }
    }

    /** NOW: all that an IMAGE keeps. */
    private static final class State {
        int ring;
        int week;
        int lot;
        int seen;
        final int[] next = new int[MOST_SEEKERS];
        final int[] had = new int[MOST_SEEKERS];
        private final int[] seenWeek = new int[MOST_SEEN];
        private final int[] seenSeeker = new int[MOST_SEEN];
        private final int[] seenFound = new int[MOST_SEEN];

        State() {
            ring = NONE;
            lot = 1;
        }

        /** As told, with the ring at p; THE LOT stays. */
        void begin(int p) {
            ring = p;
            week = 0;
            seen = 0;
            Arrays.fill(next, 0);
            Arrays.fill(had, 0);
        }

        void becomeAs(State other) {
            ring = other.ring;
            week = other.week;
            lot = other.lot;
            seen = other.seen;
            for (int k = 0; k < MOST_SEEKERS; k++) {
                next[k] = other.next[k];
                had[k] = other.had[k];
            }
            for (int i = 0; i < seen; i++) {
                seenWeek[i] = other.seenWeek[i];
                seenSeeker[i] = other.seenSeeker[i];
                seenFound[i] = other.seenFound[i];
            }
        }

        /** A WEEK goes by: the SEEKERS (bits) who found the ring. */
        int passWeek(Town t, int law) {
            int finders = 0;
            for (int k = 0; k < t.seekers; k++) {
                boolean finds = t.finds(k, next[k], ring);
                next[k] = t.stopsAt(k, next[k], ring);
                if (finds) {
                    foundBy(k, t, law);
                    finders |= 1 << k;
                }
            }
            week++;
            return finders;
        }

        /** A SEEKER finds the ring and hides it again. */
        void foundBy(int k, Town t, int law) {
            if (!t.isSeeker(k) || !t.isPlace(ring)) {
                return;
            }
            had[k]++;
            if (law == NEAR) {
                ring = t.nearest[ring];
            } else if (law == FAR) {
                ring = t.farthest[ring];
            } else {
                ring = draw(t.noWorse[ring]);
            }
        }

        /** One of some PLACES (bits) by lot; where the ring is, if there are none (THE LOT stays then). */
        private int draw(int places) {
            int many = Integer.bitCount(places);
            if (many == 0) {
                return ring;
            }
            lot = lot * 1103515245 + 12345;
            int ahead = (lot >>> 16) % many;
            for (int p = 0; p < MOST_PLACES; p++) {
                if ((places >> p & 1) != 0) {
                    if (ahead == 0) {
                        return p;
                    }
                    ahead--;
                }
            }
            return ring;
        }

        int hadByAll() {
            int sum = 0;
            for (int k = 0; k < MOST_SEEKERS; k++) {
                sum += had[k];
            }
            return sum;
        }

        void addSeen(int inWeek, int k, int found) {
            if (seen < MOST_SEEN) {
                seenWeek[seen] = inWeek;
                seenSeeker[seen] = k;
                seenFound[seen] = found;
                seen++;
            }
        }

        /** Whether all that was SEEN of a WEEK is so, if these SEEKERS (bits) found the ring in it. */
        boolean sawNoOther(int inWeek, int finders) {
            for (int i = 0; i < seen; i++) {
                if (seenWeek[i] == inWeek && (finders >> seenSeeker[i] & 1) != seenFound[i]) {
                    return false;
                }
            }
            return true;
        }
    }

    /** ODDS, as shares of a whole that each find divides without a rest. */
    private static final class Chances {
        /** 60 to the 8th: two WEEKS have 8 finds at most, and 60 is divided by 1 .. 5. */
        static final long WHOLE = 167961600000000L;

        final long[] after = new long[MOST_PLACES];
        private final long[] lying = new long[MOST_PLACES];
        private final long[] found = new long[MOST_PLACES];
        private final int[] next = new int[MOST_SEEKERS];

        /** Shares after 0, 1 or 2 WEEKS from NOW, in a town that has PLACES. */
        void goOn(Town t, State s, int weeks) {
            Arrays.fill(after, 0L);
            if (!t.isPlace(s.ring)) {
                return;
            }
            System.arraycopy(s.next, 0, next, 0, MOST_SEEKERS);
            if (weeks == 0) {
                after[s.ring] = WHOLE;
            } else if (weeks == 1) {
                lastWeek(t, s.ring, WHOLE);
            } else {
                firstWeek(this, t, 0, s.ring, WHOLE);
            }
        }

        /**
         * The first of two WEEKS, from the k-th SEEKER on: each way that it can go is gone alone,
         * as where HABITS stop hangs on where the ring was.
         */
        private static void firstWeek(Chances c, Town t, int k, int at, long share) {
            if (!t.isSeeker(k)) {
                c.lastWeek(t, at, share);
                return;
            }
            int stood = c.next[k];
            int others = t.finds(k, stood, at) ? t.noWorse[at] : 0;
            int many = Integer.bitCount(others);
            c.next[k] = t.stopsAt(k, stood, at);
            if (many == 0) {
                firstWeek(c, t, k + 1, at, share);
            } else {
                for (int p = 0; p < t.places; p++) {
                    if ((others >> p & 1) != 0) {
                        firstWeek(c, t, k + 1, p, share / many);
                    }
                }
            }
            c.next[k] = stood;
        }

        /** The last WEEK: where HABITS stop in it matters no more, so all its ways are gone together. */
        private void lastWeek(Town t, int at, long share) {
            Arrays.fill(lying, 0L);
            lying[at] = share;
            for (int k = 0; k < t.seekers; k++) {
                searchAll(t, k);
            }
            for (int p = 0; p < t.places; p++) {
                after[p] += lying[p];
            }
        }

        private void searchAll(Town t, int k) {
            for (int p = 0; p < t.places; p++) {
                boolean moves = t.noWorse[p] != 0 && t.finds(k, next[k], p);
                found[p] = moves ? lying[p] : 0L;
                lying[p] -= found[p];
            }
            for (int p = 0; p < t.places; p++) {
                if (found[p] != 0L) {
                    share(found[p], t.noWorse[p]);
                }
            }
        }

        /** A share goes to some PLACES (bits) alike. */
        private void share(long whole, int places) {
            int many = Integer.bitCount(places);
            if (many == 0) {
                return;
            }
            for (int p = 0; p < MOST_PLACES; p++) {
                if ((places >> p & 1) != 0) {
                    lying[p] += whole / many;
                }
            }
        }
    }

    /** A KIND: what it makes of a SEEKER; what its bodies were asked comes to its own part of THE TRACE. */
    private static class SeekerKind {
        long traced;

        int worth(Town t, State s, int k) {
            traced += 1;
            return t.minutes[k];
        }
    }

    private static class FinderKind extends SeekerKind {
        int worth(Town t, State s, int k) {
            traced += 10;
            return super.worth(t, s, k) + s.had[k];
        }
    }

    private static class ChildKind extends SeekerKind {
        int worth(Town t, State s, int k) {
            traced += 100;
            return super.worth(t, s, k) - t.lengths[k];
        }
    }

    private static final class HiderKind extends FinderKind {
        int worth(Town t, State s, int k) {
            traced += 1000;
            return super.worth(t, s, k) * 2;
        }
    }

    private static final class OrphanKind extends ChildKind {
        int worth(Town t, State s, int k) {
            traced += 10000;
            return super.worth(t, s, k) + k;
        }
    }

    private static final class MayorKind extends SeekerKind {
        int worth(Town t, State s, int k) {
            traced += 100000;
            return super.worth(t, s, k) + s.week;
        }
    }
}
