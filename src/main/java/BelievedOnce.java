import java.util.Arrays;
import java.util.NoSuchElementException;

/** A night watchman who is believed once; ../shared/DOC.md says what every call answers. */
public final class BelievedOnce {
    public static final int NONE = -1;
    public static final int HIDDEN = -1000000;

    private static final int MOST_PLACES = 8;
    private static final int MOST_LANES = 12;
    private static final int MOST_LAWS = 4;
    private static final int MOST_BYTES = 240;
    private static final int MOST_CLUES = 10;
    private static final int MOST_COINS = 999;
    private static final int MOST_LOSS = 9999;
    private static final int MOST_HOURS = 60;
    private static final int LAST_HOUR = 9999;
    private static final int NO_WAY = 99;
    private static final int FULL_CREDIT = 3;
    private static final int HEIR_PRICE = 5;
    private static final int WHISPERED = 3;
    private static final int FIRE = 0;
    private static final int THIEF = 1;
    private static final int FLOOD = 2;
    private static final int KINDS = 3;
    private static final int MOST_SIZE = 9;
    private static final int ACTS_KEPT = 40;
    private static final int LOG_SHOWN = 60;
    // Forty HOURS can be UNDONE and sixty must still be shown then.
    private static final int LOG_KEPT = LOG_SHOWN + ACTS_KEPT;
    private static final int ALL_PARTS = 1000000000;

    private final Tape tape;
    private final TownReader townReader;
    private Town town;
    private Town draft;
    // One more than can be told: the next one is read there, also where none more is taken.
    private final Law[] laws;
    private int lawsTold;
    private int lawHeld;
    private int peril;
    private final Night night;
    private final Chronicle chronicle;
    private final Past past;
    private final Night keptNight;
    private final Chronicle keptChronicle;
    private boolean kept;
    private final Clues clues;
    private final Ahead ahead;
    private final Stroll stroll;
    private final int[] refusals;

    public BelievedOnce() {
        tape = new Tape();
        townReader = new TownReader();
        town = new Town();
        draft = new Town();
        laws = new Law[MOST_LAWS + 1];
        for (int i = 0; i < laws.length; i++) {
            laws[i] = new Law();
        }
        lawsTold = 0;
        lawHeld = NONE;
        peril = 2;
        night = new Night();
        chronicle = new Chronicle();
        past = new Past();
        keptNight = new Night();
        keptChronicle = new Chronicle();
        kept = false;
        clues = new Clues();
        ahead = new Ahead();
        stroll = new Stroll();
        refusals = new int[5];
    }

    // ---- the TAPE, the TOWN and the LAWS

    public int feed(int a, int b, int c, int d, int e) {
        int more = bytesIn(a) + bytesIn(b) + bytesIn(c) + bytesIn(d) + bytesIn(e);
        if (tape.length + more > MOST_BYTES) {
            return NONE;
        }
        tape.append(a);
        tape.append(b);
        tape.append(c);
        tape.append(d);
        tape.append(e);
        return tape.length;
    }

    private static int bytesIn(int word) {
        int found = 0;
        for (int shift = 24; shift >= 0; shift -= 8) {
            if ((word >>> shift & 255) != 0) {
                found++;
            }
        }
        return found;
    }

    public boolean end(int n) {
        if (n < 0 || n > tape.length) {
            return false;
        }
        tape.length = n;
        return true;
    }

    public int fault(int sort) {
        if (sort != 0 && sort != 1) {
            return -2;
        }
        boolean whole = sort == 0
            ? townReader.readTown(tape, draft)
            : LawReader.readLaw(tape, nextLaw());
        return whole ? NONE : tape.at;
    }

    public int text(int sort) {
        if (sort == 0) {
            return takeTown();
        }
        return sort == 1 ? takeLaw() : NONE;
    }

    private int takeTown() {
        if (!townReader.readTown(tape, draft)) {
            return NONE;
        }
        Town former = town;
        town = draft;
        draft = former;
        tape.length = 0;
        night.beAsTold(town);
        past.held = 0;
        kept = false;
        clues.known = 0;
        return town.places;
    }

    private int takeLaw() {
        if (lawsTold >= MOST_LAWS || !LawReader.readLaw(tape, nextLaw())) {
            return NONE;
        }
        tape.length = 0;
        lawsTold++;
        return lawsTold - 1;
    }

    /** Where the next LAW is read. */
    private Law nextLaw() {
        return laws[Math.min(lawsTold, MOST_LAWS)];
    }

    public int rule(int what) {
        if (noTown()) {
            return NONE;
        }
        switch (what) {
            case 0: return night.legs;
            case 1: return town.sight;
            case 2: return night.coins;
            case 3: return night.credit;
            case 4: return night.at;
            case 5: return night.loss;
            default: return NONE;
        }
    }

    private boolean noTown() {
        return town.places == 0;
    }

    public int spot(int spot, int what) throws NoSuchElementException {
        if (!town.has(spot) || what < 0 || what > 4) {
            throw new NoSuchElementException("no such PLACE, or nothing such to tell of it");
        }
        switch (what) {
            case 0: return night.worth[spot];
            case 1: return town.likely[spot];
            case 2: return night.size[spot] > 0 ? night.kind[spot] : NONE;
            case 3: return night.size[spot];
            default: return town.beside[spot];
        }
    }

    public int steps(int from, int to) {
        return town.has(from) && town.has(to) ? town.way(from, to) : NONE;
    }

    public boolean law(int law) {
        if (law < NONE || law >= lawsTold) {
            return false;
        }
        lawHeld = law;
        return true;
    }

    /** The LAW that holds, or null. */
    private Law heldLaw() {
        return lawHeld >= 0 && lawHeld < lawsTold ? laws[lawHeld] : null;
    }

    public boolean danger(int v) {
        if (v < 0 || v > 9 || v == peril) {
            return false;
        }
        peril = v;
        return true;
    }

    // ---- ACTS

    private int refuse(int why) {
        if (why >= 0 && why < refusals.length) {
            refusals[why]++;
        }
        return NONE;
    }

    public int hours(int n) {
        if (noTown()) {
            return refuse(0);
        }
        if (n < 1 || n > MOST_HOURS) {
            return refuse(1);
        }
        if (night.hour + n > LAST_HOUR) {
            return refuse(4);
        }
        for (int i = 0; i < n; i++) {
            past.keep(night);
            passLoggedHour();
        }
        return night.hour;
    }

    private void passLoggedHour() {
        int hour = night.hour;
        int taken = night.passHour(town, heldLaw());
        chronicle.write(hour, taken, night.troubles(), night.at);
    }

    public int walk(int spot) {
        if (!town.has(spot)) {
            return refuse(0);
        }
        if (!town.joined(night.at, spot)) {
            return refuse(2);
        }
        if (night.legs < 1) {
            return refuse(3);
        }
        past.keep(night);
        night.at = spot;
        night.legs--;
        return night.legs;
    }

    public int cry() {
        if (noTown()) {
            return refuse(0);
        }
        if (night.credit < FULL_CREDIT) {
            return refuse(3);
        }
        past.keep(night);
        night.credit = 0;
        return night.hushSeen(town);
    }

    public int whisper() {
        if (noTown()) {
            return refuse(0);
        }
        if (night.sizeIn(night.at) < 1) {
            return refuse(2);
        }
        if (night.credit < 1) {
            return refuse(3);
        }
        past.keep(night);
        night.credit--;
        night.lessen(night.at, WHISPERED);
        return night.sizeIn(night.at);
    }

    public int heir() {
        if (noTown()) {
            return refuse(0);
        }
        if (night.credit >= FULL_CREDIT) {
            return refuse(2);
        }
        if (night.coins < HEIR_PRICE) {
            return refuse(3);
        }
        past.keep(night);
        night.credit = FULL_CREDIT;
        night.coins -= HEIR_PRICE;
        night.at = 0;
        return night.coins;
    }

    public int begin(int spot, int kind, int size) {
        if (!town.has(spot)) {
            return refuse(0);
        }
        if (kind < 0 || kind >= KINDS || size < 1 || size > MOST_SIZE) {
            return refuse(1);
        }
        if (night.size[spot] > 0) {
            return refuse(2);
        }
        past.keep(night);
        night.startTrouble(spot, kind, size);
        return Integer.bitCount(night.troubles());
    }

    public int give(int n) {
        if (noTown()) {
            return refuse(0);
        }
        if (n < 1 || n > 50) {
            return refuse(1);
        }
        if (night.coins + n > MOST_COINS) {
            return refuse(3);
        }
        past.keep(night);
        night.coins += n;
        return night.coins;
    }

    public int years(int n, long seed) {
        if (noTown() || n < 1 || n > MOST_HOURS || night.hour + n > LAST_HOUR) {
            return NONE;
        }
        long x = seed;
        for (int i = 0; i < n; i++) {
            past.keep(night);
            x = drawTrouble(x);
            x = drawWalk(x);
            passLoggedHour();
        }
        return night.hour;
    }

    private static long nextDraw(long x) {
        return x * 6364136223846793005L + 1442695040888963407L;
    }

    private static int drawn(long x, int of) {
        return of > 0 ? (int) ((x >>> 33) % of) : 0;
    }

    private long drawTrouble(long from) {
        long x = nextDraw(from);
        if (drawn(x, 10) >= peril) {
            return x;
        }
        x = nextDraw(x);
        int place = drawn(x, town.places);
        x = nextDraw(x);
        int kind = drawn(x, 3);
        x = nextDraw(x);
        night.startTrouble(place, kind, drawn(x, 3) + 1);
        return x;
    }

    private long drawWalk(long from) {
        long x = nextDraw(from);
        int place = drawn(x, town.places);
        if (town.joined(night.at, place)) {
            night.at = place;
        }
        return x;
    }

    public int status(int what) {
        return what >= 0 && what < refusals.length ? refusals[what] : NONE;
    }

    public int undo() {
        return past.giveBack(night) ? past.held : NONE;
    }

    public int log(int i, int what) {
        if (i < 0 || i >= logLength()) {
            return NONE;
        }
        return chronicle.read(night.hour - 1 - i, what);
    }

    /** Each HOUR from 0 on writes one row, so that the HOUR tells how many there are. */
    private int logLength() {
        return Math.min(LOG_SHOWN, night.hour);
    }

    // ---- what would come

    public int lost(int n) {
        if (noTown() || n < 0 || n > MOST_HOURS) {
            return NONE;
        }
        return ahead.lostWithin(night, town, heldLaw(), n);
    }

    public int left(int spot, int n) {
        if (!town.has(spot) || n < 0 || n > MOST_HOURS) {
            return NONE;
        }
        ahead.lostWithin(night, town, heldLaw(), n);
        return ahead.trial.worth[spot];
    }

    public int saved(int n) {
        if (noTown() || n < 1 || n > MOST_HOURS) {
            return HIDDEN;
        }
        Law law = heldLaw();
        return ahead.lostWithin(night, town, law, n) - ahead.lostBehindCry(night, town, law, n);
    }

    public int cryAt(int n, int what) {
        if (noTown() || n < 1 || n > 24 || what < 0 || what > 1) {
            return NONE;
        }
        ahead.findCryHour(night, town, heldLaw(), n);
        return what == 0 ? ahead.bestHour : ahead.leastLost;
    }

    public int quiet() {
        return noTown() ? NONE : ahead.quietHour(night, town, heldLaw());
    }

    public int call(int m, int what) {
        if (noTown() || m < 1 || m > 40 || what < 0 || what > 1) {
            return NONE;
        }
        return what == 0 ? callValue(m) : callsToHeed(callValue(m - 1));
    }

    private int callValue(int m) {
        int allLikely = 0;
        for (int p = 0; p < town.places; p++) {
            allLikely += town.likely[p];
        }
        int value = 0;
        for (int i = 0; i < m && allLikely > 0; i++) {
            int sum = 0;
            for (int p = 0; p < town.places; p++) {
                sum += town.likely[p] * Math.max(1000 * night.worth[p], value);
            }
            value = sum / allLikely;
        }
        return value;
    }

    private int callsToHeed(int later) {
        int bits = 0;
        for (int p = 0; p < town.places; p++) {
            if (town.likely[p] > 0 && 1000 * night.worth[p] >= later) {
                bits |= 1 << p;
            }
        }
        return bits;
    }

    public int round(int m, int what) {
        if (noTown() || m < 1 || m > 5 || what < 0 || what > 1 || town.besideOf(night.at) == 0) {
            return NONE;
        }
        stroll.find(town, night, m);
        return what == 0 ? stroll.bestRow : stroll.mostWorth;
    }

    public int cover() {
        if (noTown()) {
            return NONE;
        }
        int all = (1 << town.places) - 1;
        int best = all;
        for (int posts = 1; posts < all; posts++) {
            if (Integer.bitCount(posts) < Integer.bitCount(best) && town.viewFrom(posts) == all) {
                best = posts;
            }
        }
        return best;
    }

    // ---- which TROUBLE it was

    public int seen(int spot, int n, int v, boolean more) {
        if (!town.has(spot) || n < 1 || n > 20 || v < 0 || v > 99 || clues.known >= MOST_CLUES) {
            return NONE;
        }
        clues.add(spot, n, v, more);
        return clues.known;
    }

    public int fits(int i) {
        return noTown() ? NONE : clues.fitting(town, heldLaw(), i);
    }

    public int ask(int spot) {
        return town.has(spot) ? clues.bestQuestion(town, heldLaw(), spot) : NONE;
    }

    // ---- games and odds

    public int game(int one, int other, int x, int y, int what) {
        if (!isPair(one, other) || x < 0 || x > 1 || y < 0 || y > 1 || what < 0 || what > 1) {
            return HIDDEN;
        }
        return what == 0 ? watchmanHas(one, other, x, y) : thiefHas(one, other, x, y);
    }

    private boolean isPair(int one, int other) {
        return town.has(one) && town.has(other) && one != other;
    }

    private int thiefHas(int one, int other, int x, int y) {
        return x == y ? -3 : night.worth[y == 0 ? one : other] / 10 + 1;
    }

    private int watchmanHas(int one, int other, int x, int y) {
        return -thiefHas(one, other, x, y) - town.way(night.at, x == 0 ? one : other);
    }

    public int rests(int one, int other, int i) {
        if (!isPair(one, other)) {
            return NONE;
        }
        int found = 0;
        for (int x = 0; x <= 1; x++) {
            for (int y = 0; y <= 1; y++) {
                if (!isRest(one, other, x, y)) {
                    continue;
                }
                if (found == i) {
                    return 10 * x + y;
                }
                found++;
            }
        }
        return i == NONE ? found : NONE;
    }

    private boolean isRest(int one, int other, int x, int y) {
        return watchmanHas(one, other, x, y) >= watchmanHas(one, other, 1 - x, y)
            && thiefHas(one, other, x, y) >= thiefHas(one, other, x, 1 - y);
    }

    public int odds(int spot, int n, int v, int chance) {
        if (!town.has(spot) || n < 0 || n > 6 || v < 0 || v > 999 || chance < 0 || chance > 100) {
            return NONE;
        }
        long sum = 0;
        for (int fires = 0; fires < 1 << n; fires++) {
            long part = partOf(fires, n, chance);
            if (part > 0 && ahead.lostByFires(night, town, heldLaw(), spot, n, fires) >= v) {
                sum += part;
            }
        }
        return (int) sum;
    }

    /** How many parts have a fire ahead of just those HOURS whose bits are set. */
    private static long partOf(int fires, int n, int chance) {
        long part = ALL_PARTS;
        for (int i = 0; i < n; i++) {
            long with = part * chance / 100;
            part = (fires >> i & 1) == 1 ? with : part - with;
        }
        return part;
    }

    public int shares(int spot, int c) {
        if (!town.has(spot) || c < 0 || c > 999) {
            return NONE;
        }
        int all = night.allWorth();
        return all > 0 ? c * night.worth[spot] / all : 0;
    }

    // ---- which PLACES

    public int most(int what) {
        if (noTown()) {
            return NONE;
        }
        switch (what) {
            case 0: return topPlace(0);
            case 1: return topPlace(1);
            case 2: return topPlace(2);
            case 3: return topPlace(3);
            case 4: return night.troubles();
            case 5: return town.viewOf(night.at);
            case 6: return night.troublesOf(FIRE);
            case 7: return night.troublesOf(THIEF);
            case 8: return night.troublesOf(FLOOD);
            case 9: return ruins();
            case 10: return night.troubles() == 0 ? NONE : topPlace(10);
            case 11: return night.allWorth();
            case 12: return town.parts();
            default: return NONE;
        }
    }

    private int topPlace(int what) {
        int best = 0;
        for (int p = 1; p < town.places; p++) {
            if (rankOf(what, p) > rankOf(what, best)) {
                best = p;
            }
        }
        return best;
    }

    private int rankOf(int what, int place) {
        switch (what) {
            case 0: return night.worth[place];
            case 1: return town.likely[place];
            case 2: return Integer.bitCount(town.beside[place]);
            case 3: return town.way(night.at, place);
            default: return night.size[place];
        }
    }

    private int ruins() {
        int bits = 0;
        for (int p = 0; p < town.places; p++) {
            if (night.worth[p] == 0) {
                bits |= 1 << p;
            }
        }
        return bits;
    }

    // ---- images and counts

    public int image() {
        if (noTown()) {
            return NONE;
        }
        keptNight.copyFrom(night);
        keptChronicle.copyFrom(chronicle);
        kept = true;
        return night.hour;
    }

    public int back() {
        if (!kept) {
            return NONE;
        }
        night.copyFrom(keptNight);
        chronicle.copyFrom(keptChronicle);
        past.held = 0;
        return night.hour;
    }

    public int count(int what) {
        switch (what) {
            case 0: return town.places;
            case 1: return lawsTold;
            case 2: return tape.length;
            case 3: return lawHeld;
            case 4: return night.hour;
            case 5: return peril;
            case 6: return clues.known;
            case 7: return logLength();
            case 8: return past.held;
            default: return HIDDEN;
        }
    }

    /** The bytes that were fed, and how far a reader has come in them. */
    private static final class Tape {
        static final int OUT = -1;
        final int[] bytes = new int[MOST_BYTES];
        int length;
        int at;

        void append(int word) {
            for (int shift = 24; shift >= 0; shift -= 8) {
                int sign = word >>> shift & 255;
                if (sign != 0 && length < MOST_BYTES) {
                    bytes[length] = sign;
                    length++;
                }
            }
        }

        /** The next sign that is no blank (it is not passed), OUT behind the last. */
        int peek() {
            for (int i = at; i < length; i++) {
                if (bytes[i] != ' ') {
                    at = i;
                    return bytes[i];
                }
            }
            at = length;
            return OUT;
        }

        /** Passes the sign, if it is the next one. */
        boolean passes(int sign) {
            if (peek() != sign) {
                return false;
            }
            at++;
            return true;
        }

        /** A number, or NONE, `at` being then where it can't go on. */
        int number(int mostDigits) {
            peek();
            int value = 0;
            for (int digits = 0; digits <= mostDigits; digits++) {
                if (at >= length || bytes[at] < '0' || bytes[at] > '9') {
                    return digits == 0 ? NONE : value;
                }
                if (digits < mostDigits) {
                    value = 10 * value + bytes[at] - '0';
                    at++;
                }
            }
            return NONE;
        }
    }

    /** A TOWN as told. */
    private static final class Town {
        int places;
        int legs;
        int sight;
        int coins;
        final int[] worth = new int[MOST_PLACES];
        final int[] likely = new int[MOST_PLACES];
        final int[] beside = new int[MOST_PLACES];
        final int[] view = new int[MOST_PLACES];
        final int[] ways = new int[MOST_PLACES * MOST_PLACES];

        boolean has(int place) {
            return place >= 0 && place < places;
        }

        int way(int from, int to) {
            return has(from) && has(to) ? ways[from * MOST_PLACES + to] : NO_WAY;
        }

        int besideOf(int place) {
            return has(place) ? beside[place] : 0;
        }

        int viewOf(int place) {
            return has(place) ? view[place] : 0;
        }

        boolean joined(int from, int to) {
            return has(to) && (besideOf(from) >> to & 1) == 1;
        }

        void join(int one, int other) {
            beside[one] |= 1 << other;
            beside[other] |= 1 << one;
        }

        void reckonWays() {
            for (int from = 0; from < places; from++) {
                for (int to = 0; to < places; to++) {
                    ways[from * MOST_PLACES + to] = from == to ? 0 : joined(from, to) ? 1 : NO_WAY;
                }
            }
            for (int by = 0; by < places; by++) {
                for (int from = 0; from < places; from++) {
                    for (int to = 0; to < places; to++) {
                        int i = from * MOST_PLACES + to;
                        ways[i] = Math.min(ways[i], way(from, by) + way(by, to));
                    }
                }
            }
        }

        void reckonViews() {
            for (int from = 0; from < places; from++) {
                view[from] = 0;
                for (int to = 0; to < places; to++) {
                    if (way(from, to) <= sight) {
                        view[from] |= 1 << to;
                    }
                }
            }
        }

        int viewFrom(int posts) {
            int bits = 0;
            for (int p = 0; p < places; p++) {
                if ((posts >> p & 1) == 1) {
                    bits |= view[p];
                }
            }
            return bits;
        }

        int parts() {
            int found = 0;
            for (int p = 0; p < places; p++) {
                boolean first = true;
                for (int lower = 0; lower < p; lower++) {
                    if (way(lower, p) < NO_WAY) {
                        first = false;
                    }
                }
                if (first) {
                    found++;
                }
            }
            return found;
        }
    }

    /** Reads a TOWN; where it answers false, the TAPE stands at the FAULT. */
    private static final class TownReader {
        // ITEMS of s, then of p, then of l, in one row.
        private static final String HEADS = "spl";
        private static final String LETTERS = "gekwoab";
        private static final int[] FIRST = {0, 3, 5, 7};
        private static final int[] LEAST = {1, 0, 0, 1, 0, 0, 0};
        private static final int[] MOST = {5, 4, 99, 99, 9, 7, 7};
        private static final int[] USUAL = {2, 1, 20, 20, 1, 0, 1};

        final int[] items = new int[7];
        final int[] laneFrom = new int[MOST_LANES];
        final int[] laneTo = new int[MOST_LANES];
        int lanes;
        boolean ruled;

        boolean readTown(Tape tape, Town town) {
            tape.at = 0;
            lanes = 0;
            ruled = false;
            town.places = 0;
            forgetItems(0);
            keepRules(town);
            for (int i = 0; i <= MOST_BYTES; i++) {
                if (!readClause(tape, town)) {
                    return false;
                }
                if (tape.peek() == Tape.OUT) {
                    return joinLanes(town);
                }
                if (!tape.passes(';')) {
                    return false;
                }
            }
            return false;
        }

        private boolean readClause(Tape tape, Town town) {
            int clause = signIn(HEADS, 0, HEADS.length(), tape.peek());
            if (clause == NONE || isFull(clause, town)) {
                return false;
            }
            tape.at++;
            forgetItems(clause);
            if (!readItems(tape, FIRST[clause], FIRST[clause + 1])) {
                return false;
            }
            if (clause == 0) {
                ruled = true;
                keepRules(town);
            } else if (clause == 1) {
                keepPlace(town);
            } else {
                keepLane();
            }
            return true;
        }

        private void forgetItems(int clause) {
            for (int i = FIRST[clause]; i < FIRST[clause + 1]; i++) {
                items[i] = USUAL[i];
            }
        }

        private static int signIn(String row, int first, int past, int sign) {
            for (int i = first; i < past; i++) {
                if (row.charAt(i) == sign) {
                    return i;
                }
            }
            return NONE;
        }

        private boolean isFull(int clause, Town town) {
            if (clause == 0) {
                return ruled;
            }
            return clause == 1 ? town.places >= MOST_PLACES : lanes >= MOST_LANES;
        }

        private boolean readItems(Tape tape, int first, int past) {
            int told = 0;
            for (int i = first; i <= past; i++) {
                int item = signIn(LETTERS, first, past, tape.peek());
                if (item == NONE) {
                    return true;
                }
                if ((told >> item & 1) == 1) {
                    return false;
                }
                told |= 1 << item;
                tape.at++;
                if (!readNumber(tape, item)) {
                    return false;
                }
            }
            return false;
        }

        private boolean readNumber(Tape tape, int item) {
            int value = tape.number(2);
            if (value == NONE) {
                return false;
            }
            if (value < LEAST[item] || value > MOST[item]) {
                tape.at--;
                return false;
            }
            items[item] = value;
            return true;
        }

        private void keepRules(Town town) {
            town.legs = items[0];
            town.sight = items[1];
            town.coins = items[2];
        }

        private void keepPlace(Town town) {
            town.worth[town.places] = items[3];
            town.likely[town.places] = items[4];
            town.beside[town.places] = 0;
            town.places++;
        }

        private void keepLane() {
            laneFrom[lanes] = items[5];
            laneTo[lanes] = items[6];
            lanes++;
        }

        /** A LANE may be told ahead of its PLACES, so all are looked at when the TEXT is out. */
        private boolean joinLanes(Town town) {
            if (town.places < 2) {
                return false;
            }
            for (int i = 0; i < lanes; i++) {
                if (!town.has(laneFrom[i]) || !town.has(laneTo[i]) || laneFrom[i] == laneTo[i]) {
                    return false;
                }
                town.join(laneFrom[i], laneTo[i]);
            }
            town.reckonWays();
            town.reckonViews();
            return true;
        }
    }

    /** A LAW as a row of signs for a stack: what is joined stands ahead of what joins it. */
    private static final class Law {
        static final int NUMBER = 0;
        static final int LETTER = 1;
        static final int ADD = 2;
        static final int SUBTRACT = 3;
        static final int TIMES = 4;
        static final int DIVIDE = 5;
        static final int EQUAL = 6;
        static final int LESS = 7;
        static final int MORE = 8;
        static final int AND = 9;
        static final int OR = 10;
        static final int NOT = 11;
        static final int SKIP = 12;
        static final int ANSWER = 13;
        private static final int SORTS = 16;
        private static final int FARTHEST_VALUE = 1000000;

        final int[] signs = new int[MOST_BYTES + 16];
        int length;
        final int[] letters = new int[6];
        // Seven levels with at most five values waiting on each.
        final int[] stack = new int[64];
        int top;

        void put(int sort, int with) {
            if (length < signs.length) {
                signs[length] = sort + SORTS * with;
                length++;
            }
        }

        /** The SKIP at this index leads behind all that has been put. */
        void leadOn(int skip) {
            if (skip >= 0 && skip < length) {
                signs[skip] = SKIP + SORTS * length;
            }
        }

        int valueFor(int z, int k, int w, int d, int n, int h) {
            letters[0] = z;
            letters[1] = k;
            letters[2] = w;
            letters[3] = d;
            letters[4] = n;
            letters[5] = h;
            top = 0;
            for (int i = 0; i < length; i++) {
                int sort = signs[i] % SORTS;
                int with = signs[i] / SORTS;
                if (sort == NUMBER) {
                    push(with);
                } else if (sort == LETTER) {
                    push(with < letters.length ? letters[with] : 0);
                } else if (sort == ANSWER) {
                    return pop();
                } else if (sort == SKIP) {
                    i = pop() == 0 && with > i ? with - 1 : i;
                } else if (sort == NOT) {
                    push(1 - pop());
                } else {
                    int right = pop();
                    push(joint(sort, pop(), right));
                }
            }
            return 0;
        }

        private void push(int value) {
            if (top < stack.length) {
                stack[top] = value;
                top++;
            }
        }

        private int pop() {
            if (top == 0) {
                return 0;
            }
            top--;
            return stack[top];
        }

        private static int joint(int sort, int left, int right) {
            long value;
            switch (sort) {
                case ADD: value = left + right; break;
                case SUBTRACT: value = left - right; break;
                case TIMES: value = (long) left * right; break;
                case DIVIDE: value = right == 0 ? 0 : left / right; break;
                case EQUAL: value = left == right ? 1 : 0; break;
                case LESS: value = left < right ? 1 : 0; break;
                case MORE: value = left > right ? 1 : 0; break;
                case AND: value = left & right; break;
                default: value = left | right; break;
            }
            if (value > FARTHEST_VALUE) {
                return FARTHEST_VALUE;
            }
            return value < -FARTHEST_VALUE ? -FARTHEST_VALUE : (int) value;
        }
    }

    /** Reads a LAW; where it answers false, the TAPE stands at the FAULT. */
    private static final class LawReader {
        private static final int MOST_DEPTH = 6;

        static boolean readLaw(Tape tape, Law law) {
            tape.at = 0;
            law.length = 0;
            for (int i = 0; i <= MOST_BYTES; i++) {
                if (!readClause(tape, law)) {
                    return false;
                }
                if (tape.peek() == Tape.OUT) {
                    return true;
                }
                if (!tape.passes(';')) {
                    return false;
                }
            }
            return false;
        }

        private static boolean readClause(Tape tape, Law law) {
            if (!tape.passes('y') || !tape.passes(':')) {
                return false;
            }
            int sign = tape.peek();
            boolean begun = sign != '!' && sign != '(';
            if (begun) {
                if (!readSum(tape, law, 0)) {
                    return false;
                }
                if (comparisonOf(tape.peek()) == NONE) {
                    law.put(Law.ANSWER, 0);
                    return true;
                }
            }
            if (!readCondition(tape, law, 0, begun) || !tape.passes('?')) {
                return false;
            }
            int skip = law.length;
            law.put(Law.SKIP, 0);
            if (!readSum(tape, law, 0)) {
                return false;
            }
            law.put(Law.ANSWER, 0);
            law.leadOn(skip);
            return true;
        }

        /** Begun: the first SUM of it has been read, as it might have been all of the CLAUSE. */
        private static boolean readCondition(Tape tape, Law law, int depth, boolean begun) {
            if (!readTruth(tape, law, depth, begun)) {
                return false;
            }
            for (int i = 0; i < MOST_BYTES && tape.passes('|'); i++) {
                if (!readTruth(tape, law, depth, false)) {
                    return false;
                }
                law.put(Law.OR, 0);
            }
            return true;
        }

        private static boolean readTruth(Tape tape, Law law, int depth, boolean begun) {
            if (!readUnit(tape, law, depth, begun)) {
                return false;
            }
            for (int i = 0; i < MOST_BYTES && tape.passes('&'); i++) {
                if (!readUnit(tape, law, depth, false)) {
                    return false;
                }
                law.put(Law.AND, 0);
            }
            return true;
        }

        private static boolean readUnit(Tape tape, Law law, int depth, boolean begun) {
            int sign = begun ? Tape.OUT : tape.peek();
            if (sign == '!' || sign == '(') {
                return depth < MOST_DEPTH && readInner(tape, law, depth + 1);
            }
            if (!begun && !readSum(tape, law, depth)) {
                return false;
            }
            int comparison = comparisonOf(tape.peek());
            if (comparison == NONE) {
                return false;
            }
            tape.at++;
            if (!readSum(tape, law, depth)) {
                return false;
            }
            law.put(comparison, 0);
            return true;
        }

        private static boolean readInner(Tape tape, Law law, int depth) {
            if (tape.passes('!')) {
                if (!readUnit(tape, law, depth, false)) {
                    return false;
                }
                law.put(Law.NOT, 0);
                return true;
            }
            return tape.passes('(') && readCondition(tape, law, depth, false) && tape.passes(')');
        }

        private static int comparisonOf(int sign) {
            switch (sign) {
                case '=': return Law.EQUAL;
                case '<': return Law.LESS;
                case '>': return Law.MORE;
                default: return NONE;
            }
        }

        private static boolean readSum(Tape tape, Law law, int depth) {
            if (!readTerm(tape, law, depth)) {
                return false;
            }
            for (int i = 0; i < MOST_BYTES; i++) {
                int joins = tape.passes('+') ? Law.ADD : tape.passes('-') ? Law.SUBTRACT : NONE;
                if (joins == NONE) {
                    return true;
                }
                if (!readTerm(tape, law, depth)) {
                    return false;
                }
                law.put(joins, 0);
            }
            return false;
        }

        private static boolean readTerm(Tape tape, Law law, int depth) {
            if (!readAtom(tape, law, depth)) {
                return false;
            }
            for (int i = 0; i < MOST_BYTES; i++) {
                int joins = tape.passes('*') ? Law.TIMES : tape.passes('/') ? Law.DIVIDE : NONE;
                if (joins == NONE) {
                    return true;
                }
                if (!readAtom(tape, law, depth)) {
                    return false;
                }
                law.put(joins, 0);
            }
            return false;
        }

        private static boolean readAtom(Tape tape, Law law, int depth) {
            int sign = tape.peek();
            if (sign == '[') {
                if (depth >= MOST_DEPTH) {
                    return false;
                }
                tape.at++;
                return readSum(tape, law, depth + 1) && tape.passes(']');
            }
            int letter = letterOf(sign);
            if (letter != NONE) {
                tape.at++;
                law.put(Law.LETTER, letter);
                return true;
            }
            int value = tape.number(4);
            if (value == NONE) {
                return false;
            }
            law.put(Law.NUMBER, value);
            return true;
        }

        private static int letterOf(int sign) {
            switch (sign) {
                case 'z': return 0;
                case 'k': return 1;
                case 'w': return 2;
                case 'd': return 3;
                case 'n': return 4;
                case 'h': return 5;
                default: return NONE;
            }
        }
    }

    /** How things stand at one time. */
    private static final class Night {
        final int[] worth = new int[MOST_PLACES];
        final int[] kind = new int[MOST_PLACES];
        final int[] size = new int[MOST_PLACES];
        int at;
        int legs;
        int credit;
        int coins;
        int loss;
        int hour;

        void beAsTold(Town town) {
            for (int p = 0; p < MOST_PLACES; p++) {
                worth[p] = p < town.places ? town.worth[p] : 0;
                kind[p] = FIRE;
                size[p] = 0;
            }
            at = 0;
            legs = town.legs;
            credit = FULL_CREDIT;
            coins = town.coins;
            loss = 0;
            hour = 0;
        }

        void copyFrom(Night other) {
            System.arraycopy(other.worth, 0, worth, 0, MOST_PLACES);
            System.arraycopy(other.kind, 0, kind, 0, MOST_PLACES);
            System.arraycopy(other.size, 0, size, 0, MOST_PLACES);
            at = other.at;
            legs = other.legs;
            credit = other.credit;
            coins = other.coins;
            loss = other.loss;
            hour = other.hour;
        }

        int troubles() {
            int bits = 0;
            for (int p = 0; p < MOST_PLACES; p++) {
                if (size[p] > 0) {
                    bits |= 1 << p;
                }
            }
            return bits;
        }

        int troublesOf(int sort) {
            int bits = troubles();
            for (int p = 0; p < MOST_PLACES; p++) {
                if (kind[p] != sort) {
                    bits &= ~(1 << p);
                }
            }
            return bits;
        }

        int allWorth() {
            int sum = 0;
            for (int p = 0; p < MOST_PLACES; p++) {
                sum += worth[p];
            }
            return sum;
        }

        private static boolean isIn(int place) {
            return place >= 0 && place < MOST_PLACES;
        }

        int worthIn(int place) {
            return isIn(place) ? worth[place] : 0;
        }

        int sizeIn(int place) {
            return isIn(place) ? size[place] : 0;
        }

        /** A TROUBLE that is there already stays as it is. */
        void startTrouble(int place, int sort, int big) {
            if (isIn(place) && size[place] == 0) {
                kind[place] = sort;
                size[place] = big;
            }
        }

        void lessen(int place, int by) {
            if (isIn(place)) {
                size[place] = Math.max(0, size[place] - by);
            }
        }

        int hushSeen(Town town) {
            int over = troubles() & town.viewOf(at);
            for (int p = 0; p < MOST_PLACES; p++) {
                if ((over >> p & 1) == 1) {
                    size[p] = 0;
                }
            }
            return Integer.bitCount(over);
        }

        /** One HOUR: how much was lost in it. */
        int passHour(Town town, Law law) {
            int began = troubles();
            int taken = 0;
            if (began != 0) {
                for (int p = 0; p < town.places; p++) {
                    int take = Math.min(size[p], worth[p]);
                    worth[p] -= take;
                    taken += take;
                }
                for (int p = 0; p < town.places; p++) {
                    if (size[p] > 0) {
                        size[p] = grownSize(town, law, p, began);
                    }
                }
                spreadFires(town);
            }
            loss = Math.min(MOST_LOSS, loss + taken);
            legs = town.legs;
            hour++;
            return taken;
        }

        private int grownSize(Town town, Law law, int place, int began) {
            int away = town.way(at, place);
            int growth;
            if (law != null) {
                int near = Integer.bitCount(town.beside[place] & began);
                growth = law.valueFor(size[place], kind[place], worth[place], away, near, hour % 24);
            } else if (kind[place] == FIRE) {
                growth = worth[place] > 0 ? 1 : -1;
            } else {
                growth = kind[place] == THIEF && away > 1 ? 1 : -1;
            }
            int held = Math.max(-9, Math.min(9, growth));
            return Math.max(0, Math.min(MOST_SIZE, size[place] + held));
        }

        private void spreadFires(Town town) {
            int reached = 0;
            for (int p = 0; p < town.places; p++) {
                if (kind[p] == FIRE && size[p] >= 5) {
                    reached |= town.beside[p];
                }
            }
            for (int p = 0; p < town.places; p++) {
                if ((reached >> p & 1) == 1 && worth[p] > 0) {
                    startTrouble(p, FIRE, 1);
                }
            }
        }
    }

    /** The LOG, a row for each HOUR. */
    private static final class Chronicle {
        final int[] taken = new int[LOG_KEPT];
        final int[] troubled = new int[LOG_KEPT];
        final int[] stood = new int[LOG_KEPT];

        void write(int hour, int lostThen, int troubles, int at) {
            int row = Math.floorMod(hour, LOG_KEPT);
            taken[row] = lostThen;
            troubled[row] = troubles;
            stood[row] = at;
        }

        int read(int hour, int what) {
            int row = Math.floorMod(hour, LOG_KEPT);
            switch (what) {
                case 0: return taken[row];
                case 1: return troubled[row];
                case 2: return stood[row];
                default: return NONE;
            }
        }

        void copyFrom(Chronicle other) {
            System.arraycopy(other.taken, 0, taken, 0, LOG_KEPT);
            System.arraycopy(other.troubled, 0, troubled, 0, LOG_KEPT);
            System.arraycopy(other.stood, 0, stood, 0, LOG_KEPT);
        }
    }

    /** How things stood ahead of the latest ACTS. */
    private static final class Past {
        final Night[] nights = new Night[ACTS_KEPT];
        int next;
        int held;

        Past() {
            for (int i = 0; i < ACTS_KEPT; i++) {
                nights[i] = new Night();
            }
        }

        void keep(Night night) {
            nights[next].copyFrom(night);
            next = next + 1 < ACTS_KEPT ? next + 1 : 0;
            held = Math.min(ACTS_KEPT, held + 1);
        }

        boolean giveBack(Night night) {
            if (held == 0) {
                return false;
            }
            held--;
            next = next > 0 ? next - 1 : ACTS_KEPT - 1;
            night.copyFrom(nights[next]);
            return true;
        }
    }

    /** What would come, tried on nights apart. */
    private static final class Ahead {
        private static final int LONGEST_QUIET = 99;

        final Night trial = new Night();
        final Night cried = new Night();
        int bestHour;
        int leastLost;

        int lostWithin(Night now, Town town, Law law, int n) {
            trial.copyFrom(now);
            return passHours(trial, town, law, n);
        }

        private static int passHours(Night night, Town town, Law law, int n) {
            int sum = 0;
            for (int i = 0; i < n; i++) {
                sum += night.passHour(town, law);
            }
            return sum;
        }

        int lostBehindCry(Night now, Town town, Law law, int n) {
            cried.copyFrom(now);
            cried.hushSeen(town);
            return passHours(cried, town, law, n);
        }

        void findCryHour(Night now, Town town, Law law, int n) {
            trial.copyFrom(now);
            int sum = 0;
            for (int i = 0; i <= n; i++) {
                int all = sum + lostBehindCry(trial, town, law, n - i);
                if (i == 0 || all < leastLost) {
                    bestHour = i;
                    leastLost = all;
                }
                sum += trial.passHour(town, law);
            }
        }

        int quietHour(Night now, Town town, Law law) {
            trial.copyFrom(now);
            for (int i = 0; i <= LONGEST_QUIET; i++) {
                if (trial.troubles() == 0) {
                    return i;
                }
                trial.passHour(town, law);
            }
            return NONE;
        }

        /** Fires: bits of the HOURS ahead of which a fire begins. */
        int lostByFires(Night now, Town town, Law law, int place, int n, int fires) {
            trial.copyFrom(now);
            int sum = 0;
            for (int i = 0; i < n; i++) {
                if ((fires >> i & 1) == 1) {
                    trial.startTrouble(place, FIRE, 1);
                }
                sum += trial.passHour(town, law);
            }
            return sum;
        }
    }

    /** The ROUND that sees most. */
    private static final class Stroll {
        int bestRow;
        int mostWorth;

        void find(Town town, Night night, int walks) {
            bestRow = NONE;
            mostWorth = NONE;
            goOn(town, night, night.at, walks, town.viewOf(night.at), 0);
        }

        /** Rows come rising, so that the first of several stays. */
        private void goOn(Town town, Night night, int at, int walks, int viewed, int row) {
            if (walks <= 0) {
                int sum = worthOf(town, night, viewed);
                if (sum > mostWorth) {
                    mostWorth = sum;
                    bestRow = row;
                }
                return;
            }
            for (int p = 0; p < town.places; p++) {
                if (town.joined(at, p)) {
                    goOn(town, night, p, walks - 1, viewed | town.view[p], 10 * row + p);
                }
            }
        }

        private static int worthOf(Town town, Night night, int bits) {
            int sum = 0;
            for (int p = 0; p < town.places; p++) {
                if ((bits >> p & 1) == 1) {
                    sum += night.worth[p];
                }
            }
            return sum;
        }
    }

    /** What was SEEN, and which TROUBLES fit it. */
    private static final class Clues {
        private static final int SORTS_IN_PLACE = KINDS * MOST_SIZE;
        private static final int LONGEST_ASK = 12;
        private static final int WORTHS = 100;

        final int[] place = new int[MOST_CLUES];
        final int[] behind = new int[MOST_CLUES];
        final int[] mark = new int[MOST_CLUES];
        final boolean[] orMore = new boolean[MOST_CLUES];
        int known;
        final Night trial = new Night();
        // How many leave each WORTH behind each HOUR.
        final int[] tally = new int[(LONGEST_ASK + 1) * WORTHS];

        void add(int spot, int n, int v, boolean more) {
            if (known < MOST_CLUES) {
                place[known] = spot;
                behind[known] = n;
                mark[known] = v;
                orMore[known] = more;
                known++;
            }
        }

        /** How many TROUBLES fit (i NONE), or the i-th of them. */
        int fitting(Town town, Law law, int i) {
            int found = 0;
            for (int sort = 0; sort < town.places * SORTS_IN_PLACE; sort++) {
                if (!fitsAll(town, law, sort)) {
                    continue;
                }
                if (found == i) {
                    int inPlace = sort % SORTS_IN_PLACE;
                    return 100 * (sort / SORTS_IN_PLACE) + 10 * (inPlace / MOST_SIZE) + inPlace % MOST_SIZE + 1;
                }
                found++;
            }
            return i == NONE ? found : NONE;
        }

        private void startSort(Town town, int sort) {
            int inPlace = sort % SORTS_IN_PLACE;
            trial.beAsTold(town);
            trial.startTrouble(sort / SORTS_IN_PLACE, inPlace / MOST_SIZE, inPlace % MOST_SIZE + 1);
        }

        private boolean fitsAll(Town town, Law law, int sort) {
            int latest = 0;
            for (int i = 0; i < known; i++) {
                latest = Math.max(latest, behind[i]);
            }
            startSort(town, sort);
            for (int hour = 1; hour <= latest; hour++) {
                trial.passHour(town, law);
                if (!holdsBehind(hour)) {
                    return false;
                }
            }
            return true;
        }

        private boolean holdsBehind(int hour) {
            for (int i = 0; i < known; i++) {
                if (behind[i] == hour && trial.worthIn(place[i]) >= mark[i] != orMore[i]) {
                    return false;
                }
            }
            return true;
        }

        int bestQuestion(Town town, Law law, int spot) {
            Arrays.fill(tally, 0);
            int found = 0;
            for (int sort = 0; sort < town.places * SORTS_IN_PLACE; sort++) {
                if (fitsAll(town, law, sort)) {
                    found++;
                    countLeft(town, law, sort, spot);
                }
            }
            return found == 0 ? NONE : hourOfFewest();
        }

        private void countLeft(Town town, Law law, int sort, int spot) {
            startSort(town, sort);
            for (int hour = 1; hour <= LONGEST_ASK; hour++) {
                trial.passHour(town, law);
                int left = trial.worthIn(spot);
                if (left >= 0 && left < WORTHS) {
                    tally[hour * WORTHS + left]++;
                }
            }
        }

        private int hourOfFewest() {
            int best = 1;
            for (int hour = 2; hour <= LONGEST_ASK; hour++) {
                if (mostAlike(hour) < mostAlike(best)) {
                    best = hour;
                }
            }
            return best;
        }

        private int mostAlike(int hour) {
            int top = 0;
            for (int worth = 0; worth < WORTHS; worth++) {
                top = Math.max(top, tally[hour * WORTHS + worth]);
            }
            return top;
        }
    }
}
