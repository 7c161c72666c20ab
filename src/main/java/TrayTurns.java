import java.util.Arrays;

/**
 * A tray that turns in the middle of a round table. The words in capitals are those of the document (DOC.md).
 */
public final class TrayTurns {
    public static final int BAD = -1, STATE = -2, FULL = -3, NONE = -9;
    public static final int NO = -1000000;

    private static final int LEAST_SEATS = 3, MOST_SEATS = 9, SEATS_AT_FIRST = 6;
    private static final int MOST_GUESTS = 6, MOST_DISHES = 6, MOST_PORTIONS = 9, MOST_ARM = 2;
    private static final int MOST_LETTERS = 140, MOST_LETTER = 255, MOST_NUMBER = 99;
    private static final int MOST_KNOWN = 10, MOST_SEEN = 6, IMAGES = 2, KINDS = 6;
    private static final int SPILLING_STEPS = 3, TENTHS = 10, AHEAD_OF_FAULT = -10;
    private static final int MORE = 0, LESS = 1;

    private final Reader reader = new Reader();
    private final Feast feast = new Feast();
    private final Asked asked = new Asked();
    private final GuestKind[] kinds = new GuestKind[KINDS];
    private Party party = new Party();
    private final Now state = new Now();
    private final Now trial = new Now();
    private final Now[] known = new Now[MOST_KNOWN];
    private int knownCount;
    private final Now[] images = new Now[IMAGES];
    private final boolean[] kept = new boolean[IMAGES];
    private final int[] seenDish = new int[MOST_SEEN];
    private final int[] seenTurn = new int[MOST_SEEN];
    private final boolean[] seenReached = new boolean[MOST_SEEN];
    private int seenCount;
    private final int[] chances = new int[MOST_SEATS];

    public TrayTurns() {
        for (int i = 0; i < MOST_KNOWN; i++) {
            known[i] = new Now();
        }
        for (int i = 0; i < IMAGES; i++) {
            images[i] = new Now();
        }
        kinds[0] = new GuestKind();
        kinds[1] = new UncleKind();
        kinds[2] = new AuntKind();
        kinds[3] = new BishopKind();
        kinds[4] = new CousinKind();
        kinds[5] = new ChildKind();
    }

    // ---- the table

    public int type(int letter) {
        if (letter < 0 || letter > MOST_LETTER) {
            return BAD;
        }
        if (reader.length >= MOST_LETTERS) {
            return FULL;
        }
        reader.letters[reader.length] = (char) letter;
        reader.length++;
        return reader.length;
    }

    public int clear() {
        int had = reader.length;
        reader.length = 0;
        return had;
    }

    public int table() {
        int items = reader.read();
        if (items < 0) {
            return items;
        }
        reader.length = 0;
        party = reader.handOver(party);
        state.become(party.start);
        knownCount = 0;
        seenCount = 0;
        for (int i = 0; i < IMAGES; i++) {
            kept[i] = false;
        }
        return items;
    }

    public int guest(int g, int what) {
        if (!isGuest(g)) {
            return BAD;
        }
        switch (what) {
            case 0: return state.sits[g];
            case 1: return party.arms[g];
            case 2: return party.likes[g];
            case 3: return state.had[g];
            case 4: return party.needs(state, g);
            case 5: return party.reachedBy(state, g);
            default: return BAD;
        }
    }

    public int dish(int d, int what) {
        if (!isDish(d)) {
            return BAD;
        }
        switch (what) {
            case 0: return state.places[d];
            case 1: return state.portions[d];
            case 2: return party.tall[d];
            case 3: return party.seatBefore(state, d);
            case 4: return party.whoReach(state, d, state.turn);
            default: return BAD;
        }
    }

    public int now(int what) {
        switch (what) {
            case 0: return state.turn;
            case 1: return allPortions();
            case 2: return party.tour(state);
            case 3: return swap();
            case 4: return feast.share(party, state);
            case 5: return knownCount;
            default: return BAD;
        }
    }

    // ---- what is done

    public int spins(int k, int way) {
        if (k < 1 || k >= party.seats || !isBit(way)) {
            return BAD;
        }
        remember();
        state.turn = party.around(way == MORE ? state.turn + k : state.turn - k);
        return k >= SPILLING_STEPS ? spill() : 0;
    }

    public int takes(int g, int d) {
        if (!isGuest(g) || !isDish(d)) {
            return BAD;
        }
        if (!party.reaches(state, g, d, state.turn) || state.portions[d] < 1) {
            return STATE;
        }
        remember();
        state.portions[d]--;
        state.had[g] |= 1 << d;
        return state.portions[d];
    }

    public int moves(int d, int place) {
        if (!isDish(d) || !isTurn(place)) {
            return BAD;
        }
        if (!isEmpty(place)) {
            return STATE;
        }
        remember();
        int till = state.places[d];
        state.places[d] = place;
        return till;
    }

    public int changes(int a, int b) {
        if (!isGuest(a) || !isGuest(b) || a == b) {
            return BAD;
        }
        remember();
        state.changeSeats(a, b);
        return state.sits[a];
    }

    public int undo() {
        if (knownCount < 1) {
            return STATE;
        }
        knownCount--;
        state.become(known[knownCount]);
        return knownCount;
    }

    // ---- what is best

    public int steps(int g, int d, int what) {
        if (!isGuest(g) || !isDish(d) || !isBit(what)) {
            return BAD;
        }
        int more = party.stepsBy(state, g, d, MORE);
        int less = party.stepsBy(state, g, d, LESS);
        int fewest = Math.min(more, less);
        if (what == 0) {
            return fewest;
        }
        if (fewest == 0) {
            return NONE;
        }
        return more <= less ? MORE : LESS;
    }

    public int puts(int d) {
        if (!isDish(d)) {
            return BAD;
        }
        int best = NONE;
        int least = party.seats;
        trial.become(state);
        for (int place = 0; place < party.seats; place++) {
            if (place == state.places[d] || isEmpty(place)) {
                trial.places[d] = place;
                int tour = party.tour(trial);
                if (tour != NONE && tour < least) {
                    least = tour;
                    best = place;
                }
            }
        }
        return best;
    }

    public int fed(int g) {
        if (!isGuest(g)) {
            return BAD;
        }
        feast.share(party, state);
        return feast.given[g];
    }

    public int odds(int x, int t, int what) {
        if (x < 0 || x > TENTHS || !isTurn(t) || !isBit(what)) {
            return BAD;
        }
        int lower = spreadChances(x);
        int upper = chances[t];
        // the lower number is one ten for each GUEST: no other primes can be common, none more often
        for (int g = 0; g < party.guests; g++) {
            if (lower % 2 == 0 && upper % 2 == 0) {
                lower /= 2;
                upper /= 2;
            }
            if (lower % 5 == 0 && upper % 5 == 0) {
                lower /= 5;
                upper /= 5;
            }
        }
        return what == 0 ? upper : lower;
    }

    // ---- who it was

    public int sees(int d, int t, int reached) {
        if (!isDish(d) || !isTurn(t) || !isBit(reached)) {
            return BAD;
        }
        if (seenCount >= MOST_SEEN) {
            return FULL;
        }
        seenDish[seenCount] = d;
        seenTurn[seenCount] = t;
        seenReached[seenCount] = reached == 1;
        seenCount++;
        return seenCount;
    }

    public int forget() {
        int was = seenCount;
        seenCount = 0;
        return was;
    }

    public int who() {
        int bits = 0;
        for (int g = 0; g < party.guests; g++) {
            if (fitsAllSeen(g)) {
                bits |= 1 << g;
            }
        }
        return bits;
    }

    public int look(int d) {
        if (!isDish(d)) {
            return BAD;
        }
        int possible = who();
        int all = Integer.bitCount(possible);
        if (all < 2) {
            return NONE;
        }
        int best = NONE;
        int smallest = all + 1;
        for (int t = 0; t < party.seats; t++) {
            int reaching = Integer.bitCount(possible & party.whoReach(state, d, t));
            int greater = Math.max(reaching, all - reaching);
            if (greater < smallest) {
                smallest = greater;
                best = t;
            }
        }
        return best;
    }

    // ---- kinds, images

    public int rate(int kind, int g) {
        if (kind < 0 || kind >= KINDS || !isGuest(g)) {
            return NO;
        }
        asked.number = g;
        asked.arm = party.arms[g];
        asked.needs = Integer.bitCount(party.needs(state, g));
        asked.reaches = Integer.bitCount(party.reachedBy(state, g));
        asked.turn = state.turn;
        return kinds[kind].worth(asked);
    }

    public int keep(int image) {
        if (!isImage(image)) {
            return BAD;
        }
        images[image].become(state);
        kept[image] = true;
        return state.turn;
    }

    public int back(int image) {
        if (!isImage(image)) {
            return BAD;
        }
        if (!kept[image]) {
            return STATE;
        }
        state.become(images[image]);
        knownCount = 0;
        return state.turn;
    }

    public int count(int what) {
        switch (what) {
            case 0: return party.seats;
            case 1: return party.guests;
            case 2: return party.dishes;
            case 3: return seenCount;
            case 4: return reader.length;
            default: return BAD;
        }
    }

    public long trace() {
        return asked.traced;
    }

    // ---- what the calls share

    private boolean isGuest(int g) {
        return g >= 0 && g < party.guests;
    }

    private boolean isDish(int d) {
        return d >= 0 && d < party.dishes;
    }

    /** TURNS, SEATS and PLACES have the same numbers. */
    private boolean isTurn(int t) {
        return t >= 0 && t < party.seats;
    }

    private boolean isImage(int image) {
        return image >= 0 && image < IMAGES;
    }

    private static boolean isBit(int n) {
        return n == 0 || n == 1;
    }

    private boolean isEmpty(int place) {
        for (int d = 0; d < party.dishes; d++) {
            if (state.places[d] == place) {
                return false;
            }
        }
        return true;
    }

    private int allPortions() {
        int all = 0;
        for (int d = 0; d < party.dishes; d++) {
            all += state.portions[d];
        }
        return all;
    }

    /** What is NOW can be had back by undo(); the oldest is lost when there are too many. */
    private void remember() {
        if (knownCount >= MOST_KNOWN) {
            Now oldest = known[0];
            for (int i = 1; i < MOST_KNOWN; i++) {
                known[i - 1] = known[i];
            }
            known[MOST_KNOWN - 1] = oldest;
            knownCount = MOST_KNOWN - 1;
        }
        known[knownCount].become(state);
        knownCount++;
    }

    private int spill() {
        int spilt = 0;
        for (int d = 0; d < party.dishes; d++) {
            if (party.tall[d] == 1 && state.portions[d] > 0) {
                state.portions[d]--;
                spilt++;
            }
        }
        return spilt;
    }

    private int swap() {
        int best = NONE;
        int least = party.tour(state);
        // NONE comes from PORTIONS alone, so it is NONE for every CHANGE, and none is less
        trial.become(state);
        for (int a = 0; a < party.guests; a++) {
            for (int b = a + 1; b < party.guests; b++) {
                trial.changeSeats(a, b);
                int tour = party.tour(trial);
                if (tour < least) {
                    least = tour;
                    best = 10 * a + b;
                }
                trial.changeSeats(a, b);
            }
        }
        return best;
    }

    /** Fills the chances of every TURN, as parts of the lower number that it answers. */
    private int spreadChances(int x) {
        Arrays.fill(chances, 0);
        chances[state.turn] = 1;
        int lower = 1;
        int last = party.seats - 1;
        for (int g = 0; g < party.guests; g++) {
            int fromLast = chances[last] * x;
            for (int t = last; t > 0; t--) {
                chances[t] = chances[t] * (TENTHS - x) + chances[t - 1] * x;
            }
            chances[0] = chances[0] * (TENTHS - x) + fromLast;
            lower *= TENTHS;
        }
        return lower;
    }

    private boolean fitsAllSeen(int g) {
        for (int i = 0; i < seenCount; i++) {
            if (party.reaches(state, g, seenDish[i], seenTurn[i]) != seenReached[i]) {
                return false;
            }
        }
        return true;
    }

    /** All that can be done and UNDONE, and that an IMAGE keeps. */
    private static final class Now {
        int turn;
        final int[] portions = new int[MOST_DISHES];
        final int[] places = new int[MOST_DISHES];
        final int[] sits = new int[MOST_GUESTS];
        final int[] had = new int[MOST_GUESTS];

        void become(Now other) {
            turn = other.turn;
            System.arraycopy(other.portions, 0, portions, 0, MOST_DISHES);
            System.arraycopy(other.places, 0, places, 0, MOST_DISHES);
            System.arraycopy(other.sits, 0, sits, 0, MOST_GUESTS);
            System.arraycopy(other.had, 0, had, 0, MOST_GUESTS);
        }

        void changeSeats(int a, int b) {
            int seat = sits[a];
            sits[a] = sits[b];
            sits[b] = seat;
        }
    }

    /** What the text told and nothing changes, and what follows from it for a NOW. */
    private static final class Party {
        int seats = SEATS_AT_FIRST;
        int guests;
        int dishes;
        final int[] arms = new int[MOST_GUESTS];
        final int[] likes = new int[MOST_GUESTS];
        final int[] tall = new int[MOST_DISHES];
        final Now start = new Now();
        private final int[] furthest = new int[MOST_SEATS];

        void empty() {
            seats = SEATS_AT_FIRST;
            guests = 0;
            dishes = 0;
        }

        int around(int n) {
            return seats > 0 ? Math.floorMod(n, seats) : 0;
        }

        int seatBefore(Now n, int d) {
            return around(n.places[d] + n.turn);
        }

        /** By how many STEPS (TURN more) a DISH comes to lie right before a GUEST. */
        private int gap(Now n, int g, int d, int turn) {
            return around(n.sits[g] - n.places[d] - turn);
        }

        boolean reaches(Now n, int g, int d, int turn) {
            int gap = gap(n, g, d, turn);
            return gap <= arms[g] || seats - gap <= arms[g];
        }

        int stepsBy(Now n, int g, int d, int way) {
            int gap = gap(n, g, d, n.turn);
            int more = gap - arms[g];
            int less = seats - gap - arms[g];
            if (more <= 0 || less <= 0) {
                return 0;
            }
            return way == MORE ? more : less;
        }

        int reachedBy(Now n, int g) {
            int bits = 0;
            for (int d = 0; d < dishes; d++) {
                if (reaches(n, g, d, n.turn)) {
                    bits |= 1 << d;
                }
            }
            return bits;
        }

        int whoReach(Now n, int d, int turn) {
            int bits = 0;
            for (int g = 0; g < guests; g++) {
                if (reaches(n, g, d, turn)) {
                    bits |= 1 << g;
                }
            }
            return bits;
        }

        int needs(Now n, int g) {
            int there = (1 << dishes) - 1;
            return likes[g] & there & ~n.had[g];
        }

        private boolean hasEnough(Now n, int d) {
            int needing = 0;
            for (int g = 0; g < guests; g++) {
                needing += needs(n, g) >> d & 1;
            }
            return needing <= n.portions[d];
        }

        /**
         * Whoever goes `less` STEPS one way at most, must go the other way as far as the furthest DISH
         * asks that takes more than these; the shorter of both ways is gone twice.
         */
        int tour(Now n) {
            for (int d = 0; d < dishes; d++) {
                if (!hasEnough(n, d)) {
                    return NONE;
                }
            }
            fillFurthest(n);
            int least = seats - 1;
            int more = 0;
            for (int less = seats - 1; less >= 0; less--) {
                least = Math.min(least, less + more + Math.min(less, more));
                more = Math.max(more, furthest[less]);
            }
            return least;
        }

        /** By STEPS one way: the most STEPS the other way of those that are NEEDED. */
        private void fillFurthest(Now n) {
            Arrays.fill(furthest, 0);
            for (int g = 0; g < guests; g++) {
                int needs = needs(n, g);
                for (int d = 0; d < dishes; d++) {
                    if ((needs >> d & 1) == 1) {
                        int less = stepsBy(n, g, d, LESS);
                        furthest[less] = Math.max(furthest[less], stepsBy(n, g, d, MORE));
                    }
                }
            }
        }
    }

    /** FED: who has which DISH. */
    private static final class Feast {
        final int[] given = new int[MOST_GUESTS];
        private final int[] needs = new int[MOST_GUESTS];
        private final int[] left = new int[MOST_DISHES];
        private int guests;
        private int dishes;

        int share(Party party, Now n) {
            guests = party.guests;
            dishes = party.dishes;
            System.arraycopy(n.portions, 0, left, 0, MOST_DISHES);
            for (int g = 0; g < guests; g++) {
                needs[g] = party.needs(n, g);
            }
            int fed = most(0);
            int due = fed;
            for (int g = 0; g < guests; g++) {
                given[g] = firstFor(g, due);
                if (given[g] != NONE) {
                    due--;
                }
            }
            return fed;
        }

        /** The lowest DISH that leaves enough for those behind him; it is taken from what is left. */
        private int firstFor(int g, int due) {
            for (int d = 0; d < dishes; d++) {
                if ((needs[g] >> d & 1) == 1 && left[d] > 0) {
                    left[d]--;
                    if (1 + most(g + 1) == due) {
                        return d;
                    }
                    left[d]++;
                }
            }
            return NONE;
        }

        /**
         * How many GUESTS from that one on can be FED. No more are than a set of DISHES has PORTIONS, and
         * GUESTS who NEED one outside it; the least of these bounds can be met (most flow is least cut).
         */
        private int most(int from) {
            int least = guests;
            for (int set = 0; set < 1 << dishes; set++) {
                int bound = 0;
                for (int d = 0; d < dishes; d++) {
                    bound += (set >> d & 1) * left[d];
                }
                for (int g = from; g < guests; g++) {
                    bound += (needs[g] & ~set) != 0 ? 1 : 0;
                }
                least = Math.min(least, bound);
            }
            return least;
        }
    }

    /** THE TEXT, and the reading of it into a draft, so that a FAULT changes nothing. */
    private static final class Reader {
        private static final int END = 0, WORD = 1, NUMBER = 2, CLOSE = 3, ODD = 4;

        final char[] letters = new char[MOST_LETTERS];
        int length;
        private Party draft = new Party();
        private int sort;
        private int start;
        private int end;
        private int value;

        /** How many ITEMS; or -10 less FAULT. */
        int read() {
            draft.empty();
            end = 0;
            nextToken();
            int items = 0;
            while (sort != END && items < MOST_LETTERS) {
                if (!readItem(items == 0)) {
                    return AHEAD_OF_FAULT - start;
                }
                items++;
            }
            return items;
        }

        /** The draft, for one that is no longer used. */
        Party handOver(Party old) {
            Party told = draft;
            draft = old;
            return told;
        }

        /** The reading methods leave the first TOKEN that can't stand there as the one that is read. */
        private boolean readItem(boolean first) {
            if (isWord('n')) {
                return first && readSeats();
            }
            if (isWord('g')) {
                return draft.guests < MOST_GUESTS && readGuest();
            }
            return isWord('d') && draft.dishes < MOST_DISHES && readDish();
        }

        private boolean readSeats() {
            if (!readNumber(LEAST_SEATS, MOST_SEATS)) {
                return false;
            }
            draft.seats = value;
            return readClose();
        }

        private boolean readGuest() {
            int g = draft.guests;
            if (!readNumber(0, draft.seats - 1) || isAmong(draft.start.sits, g)) {
                return false;
            }
            draft.start.sits[g] = value;
            if (!readNumber(0, MOST_ARM)) {
                return false;
            }
            draft.arms[g] = value;
            if (!readRow()) {
                return false;
            }
            draft.likes[g] = value;
            draft.guests++;
            return readClose();
        }

        private boolean readDish() {
            int d = draft.dishes;
            if (!readNumber(0, draft.seats - 1) || isAmong(draft.start.places, d)) {
                return false;
            }
            draft.start.places[d] = value;
            if (!readNumber(1, MOST_PORTIONS)) {
                return false;
            }
            draft.start.portions[d] = value;
            if (!readNumber(0, 1)) {
                return false;
            }
            draft.tall[d] = value;
            draft.dishes++;
            return readClose();
        }

        private boolean isAmong(int[] taken, int many) {
            for (int i = 0; i < many && i < taken.length; i++) {
                if (taken[i] == value) {
                    return true;
                }
            }
            return false;
        }

        private boolean readNumber(int least, int most) {
            nextToken();
            return sort == NUMBER && value >= least && value <= most;
        }

        /** The value of a row are its DISHES as bits. */
        private boolean readRow() {
            nextToken();
            if (sort != WORD || end - start > MOST_DISHES) {
                return false;
            }
            value = 0;
            for (int i = start; i < end; i++) {
                if (letters[i] > 'f') {
                    return false;
                }
                value |= 1 << letters[i] - 'a';
            }
            return true;
        }

        private boolean readClose() {
            nextToken();
            if (sort != CLOSE) {
                return false;
            }
            nextToken();
            return true;
        }

        private boolean isWord(char letter) {
            return sort == WORD && end - start == 1 && letters[start] == letter;
        }

        private void nextToken() {
            start = end;
            while (start < length && letters[start] == ' ') {
                start++;
            }
            end = start;
            if (start >= length) {
                sort = END;
            } else if (isSmall(letters[start])) {
                nextWord();
            } else if (isDigit(letters[start])) {
                nextNumber();
            } else {
                sort = letters[start] == ';' ? CLOSE : ODD;
                end = start + 1;
            }
        }

        private void nextWord() {
            sort = WORD;
            while (end < length && isSmall(letters[end])) {
                end++;
            }
        }

        private void nextNumber() {
            value = 0;
            while (end < length && isDigit(letters[end])) {
                // a long row of digits must not wrap around into a small NUMBER
                value = Math.min(value * 10 + letters[end] - '0', MOST_NUMBER + 1);
                end++;
            }
            boolean zeroAhead = letters[start] == '0' && end - start > 1;
            sort = value > MOST_NUMBER || zeroAhead ? ODD : NUMBER;
        }

        private static boolean isSmall(char letter) {
            return letter >= 'a' && letter <= 'z';
        }

        private static boolean isDigit(char letter) {
            return letter >= '0' && letter <= '9';
        }
    }

    /** The GUEST whom rate() asks about, and THE TRACE of the bodies asked. */
    private static final class Asked {
        int number;
        int arm;
        int needs;
        int reaches;
        int turn;
        long traced;
    }

    private static class GuestKind {
        int worth(Asked asked) {
            asked.traced += 1;
            return asked.needs;
        }
    }

    private static class UncleKind extends GuestKind {
        int worth(Asked asked) {
            asked.traced += 10;
            return super.worth(asked) + asked.arm;
        }
    }

    private static class AuntKind extends GuestKind {
        int worth(Asked asked) {
            asked.traced += 100;
            return super.worth(asked) - asked.reaches;
        }
    }

    private static final class BishopKind extends UncleKind {
        int worth(Asked asked) {
            asked.traced += 1000;
            return 2 * super.worth(asked);
        }
    }

    private static final class CousinKind extends AuntKind {
        int worth(Asked asked) {
            asked.traced += 10000;
            return super.worth(asked) + asked.number;
        }
    }

    private static final class ChildKind extends GuestKind {
        int worth(Asked asked) {
            asked.traced += 100000;
            return super.worth(asked) + asked.turn;
        }
    }
}
