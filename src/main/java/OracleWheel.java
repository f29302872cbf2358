// An oracle whose answers stand on a turning wheel, on top of a hill. What each
// call owes is told in ../shared/DOC.md, whose names are used here as they stand.
public final class OracleWheel {
    public static final int BAD = -1, NO = -2, FULL = -3, NONE = -4;

    private static final String FIRST_TEXT =
        "rynpybn;s2,5,1;h6;w0,0,1,3;w1,1,2,4;w2,2,3,2;w3,0,3,6;w0,3,4,5;w1,4,5,2;w3,5,0,9;a4,0;a3,1;a5,2;";
    private static final String WORD_LETTERS = "ynpb";
    private static final int YES = 0, LAST_WORD = 3;
    private static final int STAIR = 1, GOATS = 2, LEE = 3;
    private static final int MOST_LETTERS = 200, MOST_WORDS = 12, MOST_PLACES = 8;
    private static final int MOST_WAYS = 10, MOST_ASKERS = 4;
    private static final int MOST_UNDONE = 8, MOST_KEPT = 2, MOST_SEEN = 6;
    private static final int MOST_TURN = 11, MOST_EVERY = 24, MOST_FOOT = 12;
    private static final int LAST_HOUR = 99, LAST_UPPER = 200, LONGEST_ROUND = 288;
    private static final int MOST_GRAZING = 8, TENTHS = 10;

    private final Text text;
    private final Scribe scribe;
    private final Moment now;
    // Hours that are only thought of go by here, so that the present is left alone.
    private final Moment trial;
    private final Shelf past;
    private final Shelf kept;
    private final Sightings seen;
    private final Outlook outlook;
    private final int[] chances;
    private Hill hill;
    // A text is read into this one, so that a faulty text does not spoil what is laid.
    private Hill spare;

    public OracleWheel() {
        Text letters = new Text();
        Scribe reader = new Scribe(letters);
        Hill laid = new Hill();
        for (int i = 0; i < FIRST_TEXT.length(); i++) {
            letters.append(FIRST_TEXT.charAt(i));
        }
        reader.copyOut(laid);
        letters.length = 0;
        text = letters;
        scribe = reader;
        hill = laid;
        spare = new Hill();
        now = new Moment();
        trial = new Moment();
        past = new Shelf(MOST_UNDONE);
        kept = new Shelf(MOST_KEPT);
        seen = new Sightings();
        outlook = new Outlook();
        chances = new int[MOST_GRAZING + 1];
        now.start(laid);
    }

    // ---- hills

    public int write(int letter) {
        if (letter < 32 || letter > 126) {
            return BAD;
        }
        return text.append((char) letter) ? text.length : FULL;
    }

    public int wipe() {
        int length = text.length;
        text.length = 0;
        return length;
    }

    public int fault() {
        return scribe.copyOut(spare);
    }

    public int lay() {
        if (scribe.copyOut(spare) != NONE || spare.askers == 0) {
            return NO;
        }
        Hill laid = spare;
        spare = hill;
        hill = laid;
        now.start(hill);
        seen.held = 0;
        past.clear();
        kept.clear();
        return hill.places;
    }

    public int word(int k) {
        // No upper number is told: a place behind the RING is NONE, however far behind.
        return k < 0 ? BAD : hill.wordAt(k);
    }

    public int way(int w, int what) {
        if (!hill.hasWay(w) || what < 0 || what > 3) {
            return BAD;
        }
        switch (what) {
            case 0:
                return hill.kind[w];
            case 1:
                return hill.endA[w];
            case 2:
                return hill.endB[w];
            default:
                return hill.hoursBy(w, now.hour, now.uppermost(hill, 0));
        }
    }

    public int asker(int a, int what) {
        if (!hill.hasAsker(a) || what < 0 || what > 3) {
            return BAD;
        }
        switch (what) {
            case 0:
                return now.place[a];
            case 1:
                return hill.wish[a];
            case 2:
                return now.left[a];
            default:
                return now.isOnTop(a) ? now.uppermost(hill, 0) : NONE;
        }
    }

    // ---- hours

    public int pass(int n) {
        if (n < 1 || n > 48) {
            return BAD;
        }
        past.push(now);
        now.goOn(hill, n);
        return now.uppermost(hill, 0);
    }

    public int setOut(int a, int w) {
        if (!hill.hasAsker(a) || !hill.hasWay(w)) {
            return BAD;
        }
        int hours = now.hoursToSetOut(hill, a, w);
        if (hours == NONE) {
            return NO;
        }
        past.push(now);
        now.leave(hill, a, w);
        return hours;
    }

    public int foot(int n) {
        if (n < 1 || n > MOST_FOOT) {
            return BAD;
        }
        if (now.footUsed) {
            return NO;
        }
        past.push(now);
        now.footUsed = true;
        now.footLeft = n;
        return now.uppermost(hill, 0);
    }

    public int graze() {
        past.push(now);
        now.turnOnePlace(hill);
        return now.uppermost(hill, 0);
    }

    public int undo() {
        if (past.held == 0) {
            return NO;
        }
        past.pop(now);
        return past.held;
    }

    // ---- what comes

    public int upper(int n) {
        if (n < 0 || n > LAST_UPPER) {
            return BAD;
        }
        return now.uppermost(hill, n);
    }

    public int round() {
        if (now.footLeft > 0) {
            return NONE;
        }
        outlook.look(hill, now, 2 * LONGEST_ROUND - 1);
        for (int n = 1; n <= LONGEST_ROUND; n++) {
            if (outlook.comesAgainBehind(n)) {
                return n;
            }
        }
        return NONE;
    }

    public int top(int a) {
        return hill.hasAsker(a) ? soonestTop(now, a) : BAD;
    }

    public int read(int a, int w) {
        if (!hill.hasAsker(a) || !isWord(w)) {
            return BAD;
        }
        return outlook.soonestWord(w, soonestTop(now, a));
    }

    public int both(int a, int b, int w) {
        if (!hill.hasAsker(a) || !hill.hasAsker(b) || a == b || !isWord(w)) {
            return BAD;
        }
        int one = soonestTop(now, a);
        int other = soonestTop(now, b);
        if (one == NONE || other == NONE) {
            return NONE;
        }
        return outlook.soonestWord(w, Math.max(one, other));
    }

    public int hold(int a) {
        if (!hill.hasAsker(a)) {
            return BAD;
        }
        if (getsHisWish(now, a)) {
            return 0;
        }
        int most = now.footUsed ? 0 : MOST_FOOT;
        for (int n = 1; n <= most; n++) {
            trial.copy(now);
            trial.footLeft = n;
            if (getsHisWish(trial, a)) {
                return n;
            }
        }
        return NONE;
    }

    public int first(int a) {
        if (!hill.hasAsker(a)) {
            return BAD;
        }
        if (now.left[a] > 0 || now.place[a] == 0) {
            return NONE;
        }
        // Bit w is for setting out by way w at once, the bit above for all he can do:
        // the lowest one that is on top in time is then the answer.
        outlook.prepare(hill, now);
        outlook.mark(0, now.place[a], 1 << MOST_WAYS);
        for (int w = 0; w < hill.ways; w++) {
            int hours = now.hoursToSetOut(hill, a, w);
            if (hours != NONE) {
                outlook.mark(hours, hill.otherEnd(w, now.place[a]), 1 << w);
            }
        }
        outlook.spread(hill, now.hour);
        return lowestBit(outlook.onTop(outlook.soonestTopOfAny()));
    }

    // ---- what was seen

    public int see(int w, int t) {
        if (!isWord(w) || t < 0 || t > LAST_HOUR) {
            return BAD;
        }
        return seen.add(w, t) ? seen.held : FULL;
    }

    public int forget() {
        int held = seen.held;
        seen.held = 0;
        return held;
    }

    public int laws(int what) {
        if (what < 0 || what > 1) {
            return BAD;
        }
        int many = 0;
        int lowest = NONE;
        for (int step = 0; step <= MOST_TURN; step++) {
            for (int every = 1; every <= MOST_EVERY; every++) {
                if (seen.fits(hill, now, step, every)) {
                    lowest = many == 0 ? 100 * step + every : lowest;
                    many++;
                }
            }
        }
        return what == 0 ? many : lowest;
    }

    public int from(int w, int t) {
        if (!isWord(w) || t < 0 || t > LAST_HOUR) {
            return BAD;
        }
        if (now.uppermost(hill, t) != w) {
            return 0;
        }
        outlook.prepare(hill, now);
        for (int p = 0; p < hill.places; p++) {
            outlook.mark(0, p, 1 << p);
        }
        outlook.spread(hill, now.hour);
        return outlook.onTop(t);
    }

    // ---- goats, years

    public int grazing(int w, int n, int x, int part) {
        if (!isWord(w) || n < 0 || n > MOST_GRAZING || x < 0 || x > TENTHS || part < 0 || part > 1) {
            return BAD;
        }
        int below = weighTurns(n, x);
        int above = 0;
        int spot = now.spotIn(hill, hill.step, hill.every, n);
        for (int g = 0; g <= n && g < chances.length; g++) {
            if (hill.wordAt(hill.spotAround(spot + g)) == w) {
                above += chances[g];
            }
        }
        int common = commonDivisor(below, above);
        return common < 1 ? BAD : (part == 0 ? above : below) / common;
    }

    public int year(int z, int n, int what) {
        if (z < 0 || z > 9999 || n < 1 || n > 60 || what < 0 || what > 1) {
            return BAD;
        }
        trial.copy(now);
        int happy = 0;
        for (int k = 0; k < n; k++) {
            setOutByDraw(draw(z, k));
            trial.goOn(hill, 1);
            happy += trial.readersOfWishes(hill);
        }
        return what == 0 ? trial.manyOnTop(hill) : happy;
    }

    public int keep() {
        if (kept.held >= MOST_KEPT) {
            return FULL;
        }
        kept.push(now);
        return kept.held;
    }

    public int back() {
        if (kept.held == 0) {
            return NO;
        }
        kept.pop(now);
        past.clear();
        return kept.held;
    }

    public int count(int what) {
        switch (what) {
            case 0:
                return hill.places;
            case 1:
                return hill.ways;
            case 2:
                return hill.askers;
            case 3:
                return hill.words;
            case 4:
                return now.hour;
            case 5:
                return now.footLeft;
            case 6:
                return now.manyOnTop(hill);
            case 7:
                return seen.held;
            case 8:
                return past.held;
            case 9:
                return kept.held;
            case 10:
                return text.length;
            default:
                return BAD;
        }
    }

    // ---- helpers

    private static boolean isWord(int w) {
        return w >= 0 && w <= LAST_WORD;
    }

    // Leaves the words of these hours in the outlook, for who looks for one of them.
    private int soonestTop(Moment moment, int a) {
        if (!hill.hasAsker(a)) {
            return NONE;
        }
        outlook.prepare(hill, moment);
        outlook.mark(moment.left[a], moment.place[a], 1);
        outlook.spread(hill, moment.hour);
        return outlook.soonestTopOfAny();
    }

    private boolean getsHisWish(Moment moment, int a) {
        int hours = soonestTop(moment, a);
        return hours != NONE && moment.uppermost(hill, hours) == hill.wish[a];
    }

    private static int lowestBit(int bits) {
        for (int bit = 0; bit < 32; bit++) {
            if ((bits >> bit & 1) == 1) {
                return bit;
            }
        }
        return NONE;
    }

    // Fills chances with the weights of 0, 1, .. goats' turns in n hours; answers their sum.
    private int weighTurns(int n, int x) {
        int sum = 1;
        for (int g = 0; g < chances.length; g++) {
            chances[g] = g == 0 ? 1 : 0;
        }
        for (int i = 0; i < n; i++) {
            for (int g = chances.length - 1; g > 0; g--) {
                chances[g] = chances[g] * (TENTHS - x) + chances[g - 1] * x;
            }
            chances[0] *= TENTHS - x;
            sum *= TENTHS;
        }
        return sum;
    }

    private static int commonDivisor(int a, int b) {
        // Euclid needs no more than 46 rounds for the largest ints.
        for (int i = 0; i < 64 && b != 0; i++) {
            int rest = a % b;
            a = b;
            b = rest;
        }
        return a;
    }

    private static int draw(int z, int k) {
        long x = 7919L * z + 6151L * k + 1;
        return (int) (x * x % 65521);
    }

    private void setOutByDraw(int draw) {
        if (hill.askers < 1 || hill.ways < 1) {
            return;
        }
        trial.leave(hill, draw % hill.askers, draw / 4 % hill.ways);
    }

    // ---- what the calls work with

    private static final class Text {
        final char[] letters;
        int length;

        Text() {
            letters = new char[MOST_LETTERS];
        }

        boolean append(char letter) {
            if (length < 0 || length >= letters.length) {
                return false;
            }
            letters[length] = letter;
            length++;
            return true;
        }

        // Behind the end there is a sign that no text can hold.
        char letterAt(int i) {
            return i >= 0 && i < length && i < letters.length ? letters[i] : 0;
        }
    }

    // What a text tells; it stays as it is until the next text is laid.
    private static final class Hill {
        final int[] ring;
        final int[] kind;
        final int[] endA;
        final int[] endB;
        final int[] hours;
        final int[] home;
        final int[] wish;
        int words;
        int step;
        int every;
        int more;
        int places;
        int ways;
        int askers;

        Hill() {
            ring = new int[MOST_WORDS];
            kind = new int[MOST_WAYS];
            endA = new int[MOST_WAYS];
            endB = new int[MOST_WAYS];
            hours = new int[MOST_WAYS];
            home = new int[MOST_ASKERS];
            wish = new int[MOST_ASKERS];
        }

        void clear() {
            words = 0;
            addWord(0);
            addWord(1);
            step = 1;
            every = MOST_EVERY;
            more = 0;
            places = 4;
            ways = 0;
            askers = 0;
        }

        boolean addWord(int w) {
            if (words < 0 || words >= ring.length) {
                return false;
            }
            ring[words] = w;
            words++;
            return true;
        }

        boolean addWay(int k, int a, int b, int d) {
            if (ways < 0 || ways >= MOST_WAYS) {
                return false;
            }
            kind[ways] = k;
            endA[ways] = a;
            endB[ways] = b;
            hours[ways] = d;
            ways++;
            return true;
        }

        boolean addAsker(int p, int w) {
            if (askers < 0 || askers >= MOST_ASKERS) {
                return false;
            }
            home[askers] = p;
            wish[askers] = w;
            askers++;
            return true;
        }

        boolean hasPlace(int p) {
            return p >= 0 && p < places;
        }

        boolean hasWay(int w) {
            return w >= 0 && w < ways && w < MOST_WAYS;
        }

        boolean hasAsker(int a) {
            return a >= 0 && a < askers && a < MOST_ASKERS;
        }

        int wordAt(int spot) {
            return spot >= 0 && spot < words && spot < ring.length ? ring[spot] : NONE;
        }

        int spotAround(int spot) {
            return words < 1 ? 0 : Math.floorMod(spot, words);
        }

        int otherEnd(int w, int place) {
            if (!hasWay(w)) {
                return NONE;
            }
            if (endA[w] == place) {
                return endB[w];
            }
            return endB[w] == place ? endA[w] : NONE;
        }

        int hoursBy(int w, int hour, int uppermost) {
            if (!hasWay(w)) {
                return NONE;
            }
            switch (kind[w]) {
                case STAIR:
                    return hour % 2 == 0 ? hours[w] : 2 * hours[w];
                case GOATS:
                    return hour % 3 == 0 ? NONE : hours[w];
                case LEE:
                    return uppermost == YES ? hours[w] : NONE;
                default:
                    return hours[w];
            }
        }
    }

    // Reads a text, item by item, into a hill.
    private static final class Scribe {
        final int[] told;
        final Text text;
        int at;

        Scribe(Text letters) {
            told = new int[4];
            text = letters;
        }

        // Answers the FAULT, or NONE; the hill is of use only then.
        int copyOut(Hill hill) {
            at = 0;
            hill.clear();
            for (int item = 0; item < MOST_LETTERS && at < text.length; item++) {
                int start = at;
                char letter = text.letterAt(start);
                at = start + 1;
                if (!copyItem(letter, hill) || !takes(';')) {
                    return start;
                }
            }
            return NONE;
        }

        boolean copyItem(char letter, Hill hill) {
            switch (letter) {
                case 'r':
                    return copyRing(hill);
                case 's':
                    return copyLaw(hill);
                case 'h':
                    return copyPlaces(hill);
                case 'w':
                    return copyWay(hill);
                case 'a':
                    return copyAsker(hill);
                default:
                    return false;
            }
        }

        boolean copyRing(Hill hill) {
            hill.words = 0;
            for (int i = 0; i < MOST_WORDS; i++) {
                int w = WORD_LETTERS.indexOf(text.letterAt(at));
                if (w < 0) {
                    break;
                }
                hill.addWord(w);
                at++;
            }
            return hill.words >= 2;
        }

        boolean copyLaw(Hill hill) {
            if (!takesNumbers(3) || told[0] > MOST_TURN || told[2] > MOST_TURN) {
                return false;
            }
            if (told[1] < 1 || told[1] > MOST_EVERY) {
                return false;
            }
            hill.step = told[0];
            hill.every = told[1];
            hill.more = told[2];
            return true;
        }

        boolean copyPlaces(Hill hill) {
            if (hill.ways > 0 || hill.askers > 0 || !takesNumbers(1)) {
                return false;
            }
            hill.places = told[0];
            return told[0] >= 1 && told[0] <= MOST_PLACES;
        }

        boolean copyWay(Hill hill) {
            if (!takesNumbers(4) || told[0] > LEE || told[1] == told[2]) {
                return false;
            }
            if (!hill.hasPlace(told[1]) || !hill.hasPlace(told[2]) || told[3] < 1 || told[3] > 12) {
                return false;
            }
            return hill.addWay(told[0], told[1], told[2], told[3]);
        }

        boolean copyAsker(Hill hill) {
            if (!takesNumbers(2) || !hill.hasPlace(told[0]) || !isWord(told[1])) {
                return false;
            }
            return hill.addAsker(told[0], told[1]);
        }

        boolean takesNumbers(int many) {
            for (int i = 0; i < many && i < told.length; i++) {
                if (i > 0 && !takes(',') || !isAtFigure()) {
                    return false;
                }
                told[i] = takeFigure();
                if (isAtFigure()) {
                    told[i] = 10 * told[i] + takeFigure();
                }
            }
            return true;
        }

        int takeFigure() {
            int figure = text.letterAt(at) - '0';
            at++;
            return figure;
        }

        boolean takes(char letter) {
            if (text.letterAt(at) != letter) {
                return false;
            }
            at++;
            return true;
        }

        boolean isAtFigure() {
            char letter = text.letterAt(at);
            return letter >= '0' && letter <= '9';
        }
    }

    // All that hours, askers, feet and goats change.
    private static final class Moment {
        final int[] place;
        final int[] left;
        int hour;
        int spot;
        int footLeft;
        boolean footUsed;

        Moment() {
            place = new int[MOST_ASKERS];
            left = new int[MOST_ASKERS];
        }

        void start(Hill hill) {
            hour = 0;
            spot = 0;
            footLeft = 0;
            footUsed = false;
            for (int a = 0; a < MOST_ASKERS; a++) {
                place[a] = hill.home[a];
                left[a] = 0;
            }
        }

        void copy(Moment other) {
            hour = other.hour;
            spot = other.spot;
            footLeft = other.footLeft;
            footUsed = other.footUsed;
            for (int a = 0; a < MOST_ASKERS; a++) {
                place[a] = other.place[a];
                left[a] = other.left[a];
            }
        }

        // Where the wheel stands t hours on, by a law that need not be the one told:
        // the hours under the foot come first, and only those behind them turn it.
        int spotIn(Hill hill, int step, int every, int t) {
            int still = Math.min(footLeft, t);
            int extras = every < 1 ? 0 : (hour + t) / every - (hour + still) / every;
            int turned = spot + step * (t - still) + hill.more * extras;
            return hill.words < 1 ? 0 : Math.floorMod(turned, hill.words);
        }

        int uppermost(Hill hill, int t) {
            return hill.wordAt(spotIn(hill, hill.step, hill.every, t));
        }

        void goOn(Hill hill, int n) {
            spot = spotIn(hill, hill.step, hill.every, n);
            hour += n;
            footLeft = Math.max(0, footLeft - n);
            for (int a = 0; a < MOST_ASKERS; a++) {
                left[a] = Math.max(0, left[a] - n);
            }
        }

        void turnOnePlace(Hill hill) {
            spot = hill.spotAround(spot + 1);
        }

        boolean isOnTop(int a) {
            return a >= 0 && a < MOST_ASKERS && place[a] == 0 && left[a] == 0;
        }

        int manyOnTop(Hill hill) {
            int many = 0;
            for (int a = 0; a < hill.askers; a++) {
                many += isOnTop(a) ? 1 : 0;
            }
            return many;
        }

        int readersOfWishes(Hill hill) {
            int many = 0;
            int told = uppermost(hill, 0);
            for (int a = 0; a < hill.askers && a < MOST_ASKERS; a++) {
                many += isOnTop(a) && hill.wish[a] == told ? 1 : 0;
            }
            return many;
        }

        int hoursToSetOut(Hill hill, int a, int w) {
            if (!hill.hasAsker(a) || left[a] > 0 || hill.otherEnd(w, place[a]) == NONE) {
                return NONE;
            }
            return hill.hoursBy(w, hour, uppermost(hill, 0));
        }

        // An asker who can't set out by this way stays.
        void leave(Hill hill, int a, int w) {
            int hours = hoursToSetOut(hill, a, w);
            if (hours != NONE) {
                place[a] = hill.otherEnd(w, place[a]);
                left[a] = hours;
            }
        }
    }

    // Moments put by, the latest one to be taken first; a full shelf loses its oldest.
    private static final class Shelf {
        final Moment[] row;
        int next;
        int held;

        Shelf(int size) {
            row = new Moment[Math.max(1, size)];
            for (int i = 0; i < row.length; i++) {
                row[i] = new Moment();
            }
        }

        void clear() {
            held = 0;
        }

        void push(Moment moment) {
            if (next < 0 || next >= row.length) {
                return;
            }
            row[next].copy(moment);
            next = next + 1 < row.length ? next + 1 : 0;
            held = Math.min(held + 1, row.length);
        }

        void pop(Moment into) {
            int latest = next > 0 ? next - 1 : row.length - 1;
            if (held < 1 || latest >= row.length) {
                return;
            }
            into.copy(row[latest]);
            next = latest;
            held--;
        }
    }

    private static final class Sightings {
        final int[] words;
        final int[] hours;
        int held;

        Sightings() {
            words = new int[MOST_SEEN];
            hours = new int[MOST_SEEN];
        }

        boolean add(int w, int t) {
            if (held < 0 || held >= MOST_SEEN) {
                return false;
            }
            words[held] = w;
            hours[held] = t;
            held++;
            return true;
        }

        boolean fits(Hill hill, Moment moment, int step, int every) {
            for (int i = 0; i < held && i < MOST_SEEN; i++) {
                if (hill.wordAt(moment.spotIn(hill, step, every, hours[i])) != words[i]) {
                    return false;
                }
            }
            return true;
        }
    }

    // The hours to come: what is uppermost in each, and who can be where.
    private static final class Outlook {
        final int[] ahead;
        // For each hour and place the bits of those who can be there, not under way;
        // whom a bit stands for is the caller's affair.
        final int[] bits;

        Outlook() {
            ahead = new int[2 * LONGEST_ROUND];
            bits = new int[(LAST_HOUR + 1) * MOST_PLACES];
        }

        void look(Hill hill, Moment moment, int hours) {
            for (int t = 0; t <= hours && t < ahead.length; t++) {
                ahead[t] = moment.uppermost(hill, t);
            }
        }

        boolean comesAgainBehind(int n) {
            for (int m = 0; m < LONGEST_ROUND; m++) {
                if (wordIn(m) != wordIn(n + m)) {
                    return false;
                }
            }
            return true;
        }

        int wordIn(int t) {
            return t >= 0 && t < ahead.length ? ahead[t] : NONE;
        }

        int soonestWord(int w, int earliest) {
            if (earliest == NONE) {
                return NONE;
            }
            for (int t = earliest; t <= LAST_HOUR; t++) {
                if (wordIn(t) == w) {
                    return t;
                }
            }
            return NONE;
        }

        void prepare(Hill hill, Moment moment) {
            look(hill, moment, LAST_HOUR);
            for (int i = 0; i < bits.length; i++) {
                bits[i] = 0;
            }
        }

        void mark(int t, int place, int who) {
            if (t >= 0 && t <= LAST_HOUR && place >= 0 && place < MOST_PLACES) {
                bits[t * MOST_PLACES + place] |= who;
            }
        }

        int whoIsAt(int t, int place) {
            if (t < 0 || t > LAST_HOUR || place < 0 || place >= MOST_PLACES) {
                return 0;
            }
            return bits[t * MOST_PLACES + place];
        }

        // Every way takes an hour at least, so what is marked while an hour is
        // spread lies behind it, and one go through the hours is enough.
        void spread(Hill hill, int hour) {
            for (int t = 0; t <= LAST_HOUR; t++) {
                for (int p = 0; p < hill.places; p++) {
                    int who = whoIsAt(t, p);
                    if (who != 0) {
                        mark(t + 1, p, who);
                        spreadByWays(hill, hour, t, p);
                    }
                }
            }
        }

        void spreadByWays(Hill hill, int hour, int t, int place) {
            int who = whoIsAt(t, place);
            for (int w = 0; w < hill.ways; w++) {
                int end = hill.otherEnd(w, place);
                int hours = end == NONE ? NONE : hill.hoursBy(w, hour + t, wordIn(t));
                if (hours != NONE) {
                    mark(t + hours, end, who);
                }
            }
        }

        int onTop(int t) {
            return whoIsAt(t, 0);
        }

        int soonestTopOfAny() {
            for (int t = 0; t <= LAST_HOUR; t++) {
                if (onTop(t) != 0) {
                    return t;
                }
            }
            return NONE;
        }
    }
}
