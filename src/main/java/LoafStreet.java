import java.util.Arrays;

/** A street of bakers with the same bread; ../shared/DOC.md says what each call does and answers. */
public final class LoafStreet {
    public static final int NONE = -1;

    private static final int MOST_BAKERS = 4;
    private static final int MOST_STEPS = 8;
    private static final int MOST_SORTS = 12;
    private static final int MOST_STATEMENTS = 24;
    private static final int MOST_LAWS = 6;
    private static final int MOST_IMAGES = 4;
    private static final int MOST_COST = 99;
    private static final int MOST_WORTH = 999;
    private static final int MOST_MORE_COST = 20;
    private static final int MOST_LOOKS = 9;
    private static final int MOST_CHASES = 60;
    private static final int MOST_MORNINGS = 400;
    private static final int MOST_SEED = 999999999;
    private static final int TAPE_BYTES = 800;
    private static final int FED_BYTES = 20;

    /** A bread's parts: every number of sellers from 1 to 4 divides them. */
    private static final int LOAF = 12;
    private static final int ALL_PARTS = 100;
    private static final long NO_EARNS = -1000000000000000000L;
    private static final int NO_LAW = 9;

    private static final int WOMEN = 0;
    private static final int EACH = 1;
    private static final int READERS = 2;

    private static final int ASKS_NOTHING = 0;
    private static final int SURE = 1;
    private static final int LOTS = 2;
    private static final int ANSWER = 3;

    private static final int BARS_ABOVE = 0;
    private static final int BARS_BELOW = 1;
    private static final int SHOUTS = 2;

    private static final int REFUSED = -2;

    private final byte[] tape;
    private final Street street;
    private final Street draft;
    private final Reader reader;
    private final Laws laws;
    private final Stand stand;
    private final Stand[] images;
    private final Trade trade;
    private final Rests rests;
    private final Chase chase;
    private final Duel duel;
    private int onTape;
    private int faultPlace;
    private int streetsTaken;
    private int imagesKept;

    public LoafStreet() {
        byte[] bytes = new byte[TAPE_BYTES];
        Street told = new Street();
        Street tried = new Street();
        Laws known = new Laws();
        Stand now = new Stand();
        Trade sales = new Trade(told, now, known);
        Stand[] kept = new Stand[MOST_IMAGES];
        for (int i = 0; i < kept.length; i++) {
            kept[i] = new Stand();
        }
        tape = bytes;
        street = told;
        draft = tried;
        reader = new Reader(bytes, tried);
        laws = known;
        stand = now;
        images = kept;
        trade = sales;
        rests = new Rests(told, now, known, sales);
        chase = new Chase(told, now, sales);
        duel = new Duel(sales);
        onTape = 0;
        faultPlace = NONE;
        streetsTaken = 0;
        imagesKept = 0;
    }

    // ---- the text

    public int feed(int a, int b, int c, int d, int e) {
        if (onTape + FED_BYTES > tape.length) {
            return NONE;
        }
        putNumber(a);
        putNumber(b);
        putNumber(c);
        putNumber(d);
        putNumber(e);
        return onTape;
    }

    private void putNumber(int number) {
        for (int shift = 24; shift >= 0; shift -= 8) {
            if (onTape < tape.length) {
                tape[onTape] = (byte) (number >>> shift);
                onTape++;
            }
        }
    }

    public int street(int n) {
        if (n < 0 || n > onTape) {
            return REFUSED;
        }
        onTape = 0;
        faultPlace = reader.read(n);
        if (faultPlace != NONE) {
            return NONE;
        }
        street.copyFrom(draft);
        stand.begin(street);
        laws.forget();
        rests.forget();
        imagesKept = 0;
        streetsTaken++;
        return street.bakers;
    }

    public int fault() {
        return faultPlace;
    }

    public int told(int what) {
        if (what >= 200) {
            return street.toldOfSort((what - 200) / 4, (what - 200) % 4);
        }
        if (what >= 100) {
            return street.hasBaker(what - 100) ? stand.costs[what - 100] : NONE;
        }
        switch (what) {
            case 0: return street.bakers;
            case 1: return street.sorts;
            case 2: return street.steps;
            case 3: return street.from;
            case 4: return street.by;
            case 5: return street.door;
            case 6: return street.listed;
            case 7: return street.statements;
            default: return NONE;
        }
    }

    // ---- what bakers ask

    public boolean cost(int baker, int cost) {
        if (!street.hasBaker(baker) || cost < 0 || cost > MOST_COST) {
            return false;
        }
        stand.costs[baker] = cost;
        rests.forget();
        return true;
    }

    public boolean promise(int baker, boolean is) {
        if (!street.hasBaker(baker)) {
            return false;
        }
        if (is) {
            stand.promises |= 1 << baker;
        } else {
            stand.promises &= ~(1 << baker);
        }
        rests.forget();
        return true;
    }

    public boolean sure(int baker, int step) {
        if (!street.hasBaker(baker) || !street.hasStep(step)) {
            return false;
        }
        stand.tellAnew(baker, SURE);
        stand.parts[baker * MOST_STEPS + step] = ALL_PARTS;
        return true;
    }

    public boolean lot(int baker, int step, int parts) {
        if (!street.hasBaker(baker) || !isAnyStep(step) || parts < 0 || parts > ALL_PARTS) {
            return false;
        }
        if (stand.kinds[baker] != LOTS) {
            stand.tellAnew(baker, LOTS);
        }
        stand.parts[baker * MOST_STEPS + step] = parts;
        return true;
    }

    public boolean answer(int baker) {
        if (!street.hasBaker(baker)) {
            return false;
        }
        stand.tellAnew(baker, ANSWER);
        return true;
    }

    public int ask(int baker) {
        return street.hasBaker(baker) ? stand.kinds[baker] : NONE;
    }

    public int part(int baker, int step) {
        if (!street.hasBaker(baker) || !isAnyStep(step) || !trade.settle()) {
            return NONE;
        }
        return trade.parts[baker * MOST_STEPS + step];
    }

    /** LOTS and LAWS may name STEPS that a STREET hasn't told, so they don't ask the STREET. */
    private static boolean isAnyStep(int step) {
        return step >= 0 && step < MOST_STEPS;
    }

    // ---- what bakers sell and earn

    public long sold(int baker) {
        if (!street.hasBaker(baker) || !trade.settle()) {
            return NONE;
        }
        trade.survey(baker);
        return trade.soldBy(baker);
    }

    public long earns(int baker) {
        if (!street.hasBaker(baker) || !trade.settle()) {
            return NO_EARNS;
        }
        trade.survey(baker);
        return trade.earnedBy(baker);
    }

    public long at(int baker, int step) {
        if (!street.hasBaker(baker) || !street.hasStep(step) || !trade.settle()) {
            return NO_EARNS;
        }
        trade.survey(baker);
        return trade.earnedAt(baker, step);
    }

    public int best(int baker) {
        if (!street.hasBaker(baker) || !trade.settle()) {
            return NONE;
        }
        trade.survey(baker);
        return trade.bestStep(baker);
    }

    public int judge() {
        if (!trade.settle()) {
            return REFUSED;
        }
        for (int baker = 0; baker < street.bakers; baker++) {
            int better = trade.betterStep(baker);
            if (better != NONE) {
                return 10 * baker + better;
            }
        }
        return NONE;
    }

    public int rests(int k) {
        if (street.bakers == 0 || k < NONE) {
            return NONE;
        }
        rests.find();
        return k == NONE ? rests.howMany(0) : rests.codeOf(rests.place(0, k));
    }

    // ---- what buyers pay

    public long pays(int sort, int what) {
        if (!street.hasSort(sort) || what < 0 || what > 2 || !trade.settle()) {
            return NONE;
        }
        trade.bill(sort);
        switch (what) {
            case 0: return trade.paid;
            case 1: return trade.bought;
            default: return trade.goneHome(sort);
        }
    }

    public int mean(int sort) {
        return street.hasSort(sort) && trade.settle() ? trade.meanOf(sort) : NONE;
    }

    public long gap() {
        return trade.settle() ? trade.spread() : NONE;
    }

    public long saves(int sort, int door) {
        if (!street.isWomen(sort) || !street.hasBaker(door) || street.asks(sort, door)) {
            return NONE;
        }
        return trade.settle() && !trade.shouted ? trade.savedBy(sort, door) : NONE;
    }

    public int would(int sort) {
        return street.isWomen(sort) && trade.settle() && !trade.shouted ? trade.wishedDoor(sort) : NONE;
    }

    public int look(int n, int what) {
        int sort = what - 10;
        if (n < 1 || n > MOST_LOOKS || (what != 0 && !street.isWomen(sort))) {
            return NONE;
        }
        if (!trade.settle() || trade.shouted) {
            return NONE;
        }
        int gone = trade.lookAround(n);
        int result = what == 0 ? gone : street.doors[sort];
        street.shutDoors();
        return result;
    }

    // ---- bakers against one another

    public long lots(int a, int b, int low, int high, int what) {
        if (!street.hasBaker(a) || !street.hasBaker(b) || a == b || what < 0 || what > 3) {
            return NONE;
        }
        if (!street.hasStep(low) || !street.hasStep(high) || low >= high || !trade.settle()) {
            return NONE;
        }
        if (!trade.isFree(low) || !trade.isFree(high)) {
            return NONE;
        }
        duel.fill(a, b, low, high);
        return duel.hasRest() ? NONE : duel.share(what);
    }

    public int chase(int n, int what) {
        boolean ofBaker = street.hasBaker(what - 10);
        if (n < 1 || n > MOST_CHASES || (!ofBaker && (what < 0 || what > 2))) {
            return NONE;
        }
        if (!trade.settle() || trade.answering != NONE) {
            return NONE;
        }
        chase.go(n);
        if (ofBaker) {
            return chase.steps[what - 10];
        }
        switch (what) {
            case 0: return chase.ending;
            case 1: return chase.gone;
            default: return chase.ring;
        }
    }

    // ---- laws

    public int law(int kind, int step) {
        if (kind < BARS_ABOVE || kind > SHOUTS || !isAnyStep(step)) {
            return NONE;
        }
        return laws.add(kind, step);
    }

    public boolean force(int law) {
        if (law != NONE && !laws.has(law)) {
            return false;
        }
        stand.force = law;
        rests.forget();
        return true;
    }

    public int bestLaw(int sort, int what) {
        if (!street.hasSort(sort) || what < 0 || what > 1) {
            return NONE;
        }
        rests.tryQuietLaws(sort);
        rests.tryShouts(sort);
        int best = rests.bestCase();
        if (best == NONE) {
            return NONE;
        }
        if (what == 1) {
            return rests.means[best];
        }
        return best == 0 ? NO_LAW : best - 1;
    }

    public int edge(int baker) {
        return street.hasBaker(baker) ? rests.changingCost(baker) : NONE;
    }

    // ---- mornings, images, counts

    public long run(int seed, int n, int what) {
        if (seed < 0 || seed > MOST_SEED || n < 1 || n > MOST_MORNINGS) {
            return NONE;
        }
        boolean known = street.hasBaker(what - 10) || street.hasBaker(what - 20) || street.hasSort(what - 30);
        return known && trade.settle() ? trade.mornings(seed, n, what) : NONE;
    }

    public int image() {
        if (street.bakers == 0 || imagesKept >= images.length) {
            return NONE;
        }
        images[imagesKept].copyFrom(stand);
        imagesKept++;
        return imagesKept - 1;
    }

    public boolean back(int image) {
        if (image < 0 || image >= imagesKept || image >= images.length) {
            return false;
        }
        stand.copyFrom(images[image]);
        rests.forget();
        return true;
    }

    public int count(int what) {
        switch (what) {
            case 0: return streetsTaken;
            case 1: return onTape;
            case 2: return laws.told;
            case 3: return stand.force;
            case 4: return imagesKept;
            case 5: return stand.promises;
            case 6: return trade.settle() ? 1 : 0;
            case 7: return trade.settle() ? trade.likelyRows() : 0;
            case 8: return street.womenInAll();
            default: return NONE;
        }
    }

    /** A STREET as its text tells it. */
    private static final class Street {
        private int bakers;
        private int sorts;
        private int steps;
        private int from;
        private int by;
        private int door;
        private int listed;
        private int statements;
        private final long[] names;
        private final int[] costs;
        private final int[] kinds;
        private final int[] numbers;
        private final int[] named;
        private final int[] worths;
        /** The SETS of "women" while they LOOK; at all other times those named. */
        private final int[] doors;

        private Street() {
            names = new long[MOST_BAKERS];
            costs = new int[MOST_BAKERS];
            kinds = new int[MOST_SORTS];
            numbers = new int[MOST_SORTS];
            named = new int[MOST_SORTS];
            worths = new int[MOST_SORTS];
            doors = new int[MOST_SORTS];
            empty();
        }

        private void empty() {
            bakers = 0;
            sorts = 0;
            steps = 4;
            from = 5;
            by = 5;
            door = 0;
            listed = 0;
            statements = 0;
        }

        private void copyFrom(Street other) {
            bakers = other.bakers;
            sorts = other.sorts;
            steps = other.steps;
            from = other.from;
            by = other.by;
            door = other.door;
            listed = other.listed;
            statements = other.statements;
            System.arraycopy(other.costs, 0, costs, 0, MOST_BAKERS);
            System.arraycopy(other.kinds, 0, kinds, 0, MOST_SORTS);
            System.arraycopy(other.numbers, 0, numbers, 0, MOST_SORTS);
            System.arraycopy(other.named, 0, named, 0, MOST_SORTS);
            System.arraycopy(other.worths, 0, worths, 0, MOST_SORTS);
            shutDoors();
        }

        private void shutDoors() {
            System.arraycopy(named, 0, doors, 0, MOST_SORTS);
        }

        private void addBaker(long name, int cost) {
            if (bakers < MOST_BAKERS) {
                names[bakers] = name;
                costs[bakers] = cost;
                bakers++;
            }
        }

        private void addSort(int kind, int number, int of, int worth) {
            if (sorts < MOST_SORTS) {
                kinds[sorts] = kind;
                numbers[sorts] = number;
                named[sorts] = of;
                worths[sorts] = worth;
                sorts++;
            }
        }

        private boolean hasBaker(int baker) {
            return baker >= 0 && baker < bakers;
        }

        private boolean hasStep(int step) {
            return step >= 0 && step < steps;
        }

        private boolean hasSort(int sort) {
            return sort >= 0 && sort < sorts;
        }

        private boolean isWomen(int sort) {
            return hasSort(sort) && kinds[sort] == WOMEN;
        }

        private boolean asks(int sort, int baker) {
            return hasSort(sort) && (doors[sort] >> baker & 1) != 0;
        }

        private int everyone() {
            return (1 << bakers) - 1;
        }

        private int price(int step) {
            return from + step * by;
        }

        private int toldOfSort(int sort, int what) {
            if (!hasSort(sort)) {
                return NONE;
            }
            switch (what) {
                case 0: return kinds[sort];
                case 1: return numbers[sort];
                case 2: return named[sort];
                default: return worths[sort];
            }
        }

        /** How many SETS a SORT has, a LAW that shouts or not. */
        private int setsInAll(int sort) {
            if (kinds[sort] != EACH) {
                return 1;
            }
            int sets = 0;
            for (int set = 0; set < 1 << bakers; set++) {
                if (Integer.bitCount(set) == named[sort]) {
                    sets++;
                }
            }
            return sets;
        }

        /** How many SETS of a SORT have just these doors. */
        private int setsLike(int sort, int set, boolean shouted) {
            if (shouted) {
                return set == everyone() ? setsInAll(sort) : 0;
            }
            boolean like;
            if (kinds[sort] == WOMEN) {
                like = set == doors[sort];
            } else if (kinds[sort] == EACH) {
                like = Integer.bitCount(set) == named[sort];
            } else {
                like = set == listed;
            }
            return like ? 1 : 0;
        }

        private int womenInAll() {
            int women = 0;
            for (int sort = 0; sort < sorts; sort++) {
                women += numbers[sort] * setsInAll(sort);
            }
            return women;
        }
    }

    /** Reads a STREET's text into a draft. */
    private static final class Reader {
        private static final String WORDS =
            "baker cost steps from by list door women ask and worth each of readers ";
        private static final int LONGEST_NAME = 8;
        private static final int MOST_DIGITS = 4;
        private static final int TOO_LARGE = 10000;

        private static final int END = 0;
        private static final int WORD = 1;
        private static final int DIGITS = 2;
        private static final int SIGN = 3;
        private static final int ALIEN = 4;

        private final byte[] text;
        private final Street draft;
        private int length;
        private int next;
        private int start;
        private int kind;
        private int size;
        private int value;
        private long letters;

        private Reader(byte[] text, Street draft) {
            this.text = text;
            this.draft = draft;
        }

        /** The FAULT's place; NONE: the draft holds the text. */
        private int read(int bytes) {
            draft.empty();
            length = Math.min(bytes, text.length);
            next = 0;
            advance();
            for (int i = 0; i <= MOST_STATEMENTS && kind != END; i++) {
                if (draft.statements >= MOST_STATEMENTS || !statement()) {
                    return start;
                }
                draft.statements++;
            }
            return draft.bakers > 0 ? NONE : length;
        }

        private void advance() {
            while (next < length && (text[next] == ' ' || text[next] == '\n')) {
                next++;
            }
            start = next;
            value = 0;
            letters = 0;
            while (next < length && text[next] >= 'a' && text[next] <= 'z') {
                letters = letters * 32 + (text[next] - 'a' + 1);
                next++;
            }
            kind = next > start ? WORD : DIGITS;
            while (kind == DIGITS && next < length && text[next] >= '0' && text[next] <= '9') {
                value = Math.min(value * 10 + (text[next] - '0'), TOO_LARGE);
                next++;
            }
            if (next == start) {
                kind = next >= length ? END : text[next] == ';' ? SIGN : ALIEN;
                next = Math.min(next + 1, length);
            }
            size = next - start;
        }

        private boolean statement() {
            if (accept("baker")) {
                return baker();
            }
            if (accept("steps")) {
                return steps();
            }
            if (accept("list")) {
                return listing();
            }
            if (accept("door")) {
                draft.door = number(0, 99);
                return draft.door != NONE && ended();
            }
            if (draft.sorts >= MOST_SORTS) {
                return false;
            }
            if (accept("women")) {
                return sort(WOMEN);
            }
            if (accept("each")) {
                return sort(EACH);
            }
            return accept("readers") && sort(READERS);
        }

        private boolean baker() {
            if (!isName() || knownBaker() != NONE || draft.bakers >= MOST_BAKERS) {
                return false;
            }
            long name = letters;
            advance();
            if (!accept("cost")) {
                return false;
            }
            int cost = number(0, MOST_COST);
            if (cost == NONE) {
                return false;
            }
            draft.addBaker(name, cost);
            return ended();
        }

        private boolean steps() {
            draft.steps = number(1, MOST_STEPS);
            if (draft.steps == NONE || !accept("from")) {
                return false;
            }
            draft.from = number(0, 99);
            if (draft.from == NONE || !accept("by")) {
                return false;
            }
            draft.by = number(1, 20);
            return draft.by != NONE && ended();
        }

        private boolean listing() {
            int baker = knownBaker();
            if (baker == NONE) {
                return false;
            }
            draft.listed |= 1 << baker;
            advance();
            return ended();
        }

        private boolean sort(int kindOfSort) {
            int women = number(1, 99);
            if (women == NONE) {
                return false;
            }
            int of = 0;
            if (kindOfSort == WOMEN) {
                of = accept("ask") ? asked() : NONE;
            } else if (kindOfSort == EACH) {
                of = accept("of") ? number(1, 4) : NONE;
            }
            if (of == NONE) {
                return false;
            }
            int worth = accept("worth") ? number(0, MOST_WORTH) : MOST_WORTH;
            if (worth == NONE) {
                return false;
            }
            draft.addSort(kindOfSort, women, of, worth);
            return ended();
        }

        /** Takes NAMES with "and" between them, as bits; NONE: one isn't so. */
        private int asked() {
            int set = 0;
            for (int i = 0; i <= MOST_BAKERS; i++) {
                int baker = knownBaker();
                if (baker == NONE || (set >> baker & 1) != 0) {
                    return NONE;
                }
                set |= 1 << baker;
                advance();
                if (!accept("and")) {
                    return set;
                }
            }
            return NONE;
        }

        private boolean ended() {
            if (kind != SIGN) {
                return false;
            }
            advance();
            return true;
        }

        private boolean accept(String word) {
            if (kind != WORD || size != word.length() || !spells(word, 0)) {
                return false;
            }
            advance();
            return true;
        }

        /** Takes a NUMBER of these bounds; NONE: it isn't one. */
        private int number(int least, int most) {
            if (kind != DIGITS || size > MOST_DIGITS || value < least || value > most) {
                return NONE;
            }
            int taken = value;
            advance();
            return taken;
        }

        private boolean isName() {
            return kind == WORD && size <= LONGEST_NAME && !isKeyword();
        }

        private boolean isKeyword() {
            int begin = 0;
            for (int i = 0; i < WORDS.length(); i++) {
                if (WORDS.charAt(i) == ' ') {
                    if (i - begin == size && spells(WORDS, begin)) {
                        return true;
                    }
                    begin = i + 1;
                }
            }
            return false;
        }

        private boolean spells(String words, int begin) {
            if (begin + size > words.length() || start + size > length) {
                return false;
            }
            for (int i = 0; i < size; i++) {
                if (words.charAt(begin + i) != (char) text[start + i]) {
                    return false;
                }
            }
            return true;
        }

        /** The BAKER whose NAME the token is; keywords never are one. */
        private int knownBaker() {
            if (kind != WORD || size > LONGEST_NAME) {
                return NONE;
            }
            for (int i = 0; i < draft.bakers; i++) {
                if (draft.names[i] == letters) {
                    return i;
                }
            }
            return NONE;
        }
    }

    /** ASKS, promises, COSTS and the LAW in force: all that an IMAGE keeps. */
    private static final class Stand {
        private final int[] kinds;
        private final int[] parts;
        private final int[] costs;
        private int promises;
        private int force;

        private Stand() {
            kinds = new int[MOST_BAKERS];
            parts = new int[MOST_BAKERS * MOST_STEPS];
            costs = new int[MOST_BAKERS];
            promises = 0;
            force = NONE;
        }

        private void begin(Street street) {
            Arrays.fill(kinds, ASKS_NOTHING);
            Arrays.fill(parts, 0);
            System.arraycopy(street.costs, 0, costs, 0, MOST_BAKERS);
            promises = 0;
            force = NONE;
        }

        private void copyFrom(Stand other) {
            System.arraycopy(other.kinds, 0, kinds, 0, kinds.length);
            System.arraycopy(other.parts, 0, parts, 0, parts.length);
            System.arraycopy(other.costs, 0, costs, 0, costs.length);
            promises = other.promises;
            force = other.force;
        }

        private void tellAnew(int baker, int kind) {
            kinds[baker] = kind;
            for (int step = 0; step < MOST_STEPS; step++) {
                parts[baker * MOST_STEPS + step] = 0;
            }
        }

        private boolean promises(int baker) {
            return (promises >> baker & 1) != 0;
        }
    }

    /** The LAWS told. */
    private static final class Laws {
        private int told;
        private final int[] kinds;
        private final int[] steps;

        private Laws() {
            told = 0;
            kinds = new int[MOST_LAWS];
            steps = new int[MOST_LAWS];
        }

        private void forget() {
            told = 0;
        }

        private int add(int kind, int step) {
            if (told >= MOST_LAWS) {
                return NONE;
            }
            kinds[told] = kind;
            steps[told] = step;
            told++;
            return told - 1;
        }

        private boolean has(int number) {
            return number >= 0 && number < told;
        }

        private boolean shouts(int number) {
            return has(number) && kinds[number] == SHOUTS;
        }

        /** The STEPS that a LAW (or NONE) doesn't bar, as bits. */
        private int free(int number, int stepsTold) {
            int all = (1 << stepsTold) - 1;
            if (!has(number) || kinds[number] == SHOUTS) {
                return all;
            }
            int below = (1 << steps[number]) - 1;
            return kinds[number] == BARS_BELOW ? all & ~below : all & (below * 2 + 1);
        }
    }

    /** Who sells what by ASKS that are WHOLE. */
    private static final class Trade {
        private final Street street;
        private final Stand stand;
        private final Laws laws;
        /** By a SET and a STEP: the women with just this SET to whom that PRICE isn't too much. */
        private final int[] crowd;
        /** The ASKS as parts, an ANSWER too. */
        private final int[] parts;
        private final int[] row;
        /** By a SET: the least STEP in the row of its BAKERS (MOST_STEPS if it has none), and who asks it. */
        private final int[] least;
        private final int[] cheapest;
        private final int[] soldAt;
        private final int[] takenAt;
        private final long[] soldSum;
        private final long[] takenSum;
        private long paid;
        private long bought;
        private boolean shouted;
        private int free;
        private int answering;

        private Trade(Street street, Stand stand, Laws laws) {
            this.street = street;
            this.stand = stand;
            this.laws = laws;
            crowd = new int[(1 << MOST_BAKERS) * MOST_STEPS];
            parts = new int[MOST_BAKERS * MOST_STEPS];
            row = new int[MOST_BAKERS];
            least = new int[1 << MOST_BAKERS];
            cheapest = new int[1 << MOST_BAKERS];
            soldAt = new int[MOST_STEPS];
            takenAt = new int[MOST_STEPS];
            soldSum = new long[MOST_STEPS];
            takenSum = new long[MOST_STEPS];
            paid = 0;
            bought = 0;
            shouted = false;
            free = 0;
            answering = NONE;
        }

        /** Takes the ASKS as parts; false: they aren't WHOLE. */
        private boolean settle() {
            open(stand.force);
            answering = NONE;
            Arrays.fill(parts, 0);
            for (int baker = 0; baker < street.bakers; baker++) {
                if (stand.kinds[baker] == ANSWER) {
                    if (answering != NONE) {
                        return false;
                    }
                    answering = baker;
                } else if (!takeParts(baker)) {
                    return false;
                }
            }
            return street.bakers > 0 && (answering == NONE || answerAnew());
        }

        private void open(int law) {
            shouted = laws.shouts(law);
            free = laws.free(law, street.steps);
            gather();
        }

        private boolean isFree(int step) {
            return (free >> step & 1) != 0;
        }

        private boolean takeParts(int baker) {
            int together = 0;
            for (int step = 0; step < MOST_STEPS; step++) {
                int given = stand.parts[baker * MOST_STEPS + step];
                if (given > 0 && !isFree(step)) {
                    return false;
                }
                parts[baker * MOST_STEPS + step] = given;
                together += given;
            }
            return together == ALL_PARTS;
        }

        private boolean answerAnew() {
            survey(answering);
            int step = bestStep(answering);
            if (step == NONE) {
                return false;
            }
            makeSure(answering, step);
            return true;
        }

        private void makeSure(int baker, int step) {
            for (int i = 0; i < MOST_STEPS; i++) {
                parts[baker * MOST_STEPS + i] = i == step ? ALL_PARTS : 0;
            }
        }

        private void gather() {
            Arrays.fill(crowd, 0);
            for (int sort = 0; sort < street.sorts; sort++) {
                for (int set = 1; set <= street.everyone(); set++) {
                    int women = street.setsLike(sort, set, shouted) * street.numbers[sort];
                    if (women > 0) {
                        addCrowd(set, women, street.worths[sort]);
                    }
                }
            }
        }

        private void addCrowd(int set, int women, int worth) {
            for (int step = 0; step < street.steps; step++) {
                if (street.price(step) <= worth) {
                    crowd[set * MOST_STEPS + step] += women;
                }
            }
        }

        // ---- a baker against the others

        /** What a BAKER sells and takes at each STEP, times the others' WEIGHTS. */
        private void survey(int baker) {
            Arrays.fill(soldSum, 0);
            Arrays.fill(takenSum, 0);
            int rows = rowsOfOthers();
            firstRow();
            for (int i = 0; i < rows; i++) {
                long weight = weightOfOthers(baker);
                if (weight > 0) {
                    readRow();
                    weigh(baker);
                    for (int step = 0; step < street.steps; step++) {
                        soldSum[step] += weight * soldAt[step];
                        takenSum[step] += weight * takenAt[step];
                    }
                }
                nextRow(baker);
            }
        }

        private int rowsOfOthers() {
            int rows = 1;
            for (int i = 1; i < street.bakers; i++) {
                rows *= street.steps;
            }
            return rows;
        }

        private void firstRow() {
            Arrays.fill(row, 0);
        }

        private void nextRow(int baker) {
            for (int i = 0; i < street.bakers; i++) {
                if (i != baker) {
                    row[i]++;
                    if (row[i] < street.steps) {
                        return;
                    }
                    row[i] = 0;
                }
            }
        }

        private long weightOfOthers(int baker) {
            long weight = 1;
            for (int i = 0; i < street.bakers && weight > 0; i++) {
                if (i != baker) {
                    weight *= parts[i * MOST_STEPS + row[i]];
                }
            }
            return weight;
        }

        private void readRow() {
            least[0] = MOST_STEPS;
            cheapest[0] = 0;
            for (int i = 0; i < street.bakers; i++) {
                for (int set = 1 << i; set < 2 << i; set++) {
                    int others = set - (1 << i);
                    int itself = row[i] <= least[others] ? 1 << i : 0;
                    int alike = row[i] >= least[others] ? cheapest[others] : 0;
                    least[set] = Math.min(row[i], least[others]);
                    cheapest[set] = itself | alike;
                }
            }
        }

        /** What a BAKER sells and takes at each STEP if the others ask as in the row that was read. */
        private void weigh(int baker) {
            Arrays.fill(soldAt, 0);
            Arrays.fill(takenAt, 0);
            boolean matches = stand.promises(baker);
            for (int set = 1 << baker; set <= street.everyone(); set++) {
                if ((set >> baker & 1) != 0 && crowd[set * MOST_STEPS] > 0) {
                    int others = set & ~(1 << baker);
                    int cheap = least[others];
                    int matching = others & stand.promises;
                    int alone = LOAF / (1 + Integer.bitCount(matching));
                    int shared = LOAF / (1 + Integer.bitCount(matching | cheapest[others]));
                    for (int step = 0; step < street.steps && (step <= cheap || matches); step++) {
                        int paid = Math.min(step, cheap);
                        int sold = crowd[set * MOST_STEPS + paid] * (step < cheap ? alone : shared);
                        soldAt[step] += sold;
                        takenAt[step] += sold * street.price(paid);
                    }
                }
            }
        }

        // ---- read off the latest survey, which was of the same baker

        private long gainAt(int baker, int step) {
            return takenSum[step] - stand.costs[baker] * soldSum[step];
        }

        private long soldBy(int baker) {
            long sum = 0;
            for (int step = 0; step < street.steps; step++) {
                sum += parts[baker * MOST_STEPS + step] * soldSum[step];
            }
            return sum;
        }

        private long earnedBy(int baker) {
            long sum = 0;
            for (int step = 0; step < street.steps; step++) {
                sum += parts[baker * MOST_STEPS + step] * gainAt(baker, step);
            }
            return sum;
        }

        private long earnedAt(int baker, int step) {
            return ALL_PARTS * gainAt(baker, step);
        }

        private int bestStep(int baker) {
            int best = NONE;
            for (int step = 0; step < street.steps; step++) {
                if (isFree(step) && (best == NONE || gainAt(baker, step) > gainAt(baker, best))) {
                    best = step;
                }
            }
            return best;
        }

        /** BEST, if a BAKER EARNS more by it than by its ASK; else NONE. */
        private int betterStep(int baker) {
            survey(baker);
            int best = bestStep(baker);
            return best != NONE && earnedAt(baker, best) > earnedBy(baker) ? best : NONE;
        }

        // ---- buyers

        /** The WEIGHTS of all ROWS in which no BAKER of a SET asks less than a STEP, together. */
        private long weightFrom(int set, int step) {
            long weight = 1;
            for (int i = 0; i < street.bakers; i++) {
                weight *= (set >> i & 1) != 0 ? partsFrom(i, step) : ALL_PARTS;
            }
            return weight;
        }

        private int partsFrom(int baker, int step) {
            int sum = 0;
            for (int i = step; i < street.steps; i++) {
                sum += parts[baker * MOST_STEPS + i];
            }
            return sum;
        }

        private long weightInAll() {
            return weightFrom(0, 0);
        }

        /** Fills paid and bought for a SORT. */
        private void bill(int sort) {
            paid = 0;
            bought = 0;
            for (int set = 1; set <= street.everyone(); set++) {
                long women = street.setsLike(sort, set, shouted) * street.numbers[sort];
                for (int step = 0; step < street.steps && women > 0; step++) {
                    if (street.price(step) <= street.worths[sort]) {
                        long sold = (weightFrom(set, step) - weightFrom(set, step + 1)) * women * LOAF;
                        bought += sold;
                        paid += sold * street.price(step);
                    }
                }
            }
        }

        /** Read off the latest bill, which was of the same SORT. */
        private long goneHome(int sort) {
            long women = street.setsInAll(sort) * street.numbers[sort];
            return women * LOAF * weightInAll() - bought;
        }

        private int meanOf(int sort) {
            bill(sort);
            return bought > 0 ? (int) (paid * 1000 / bought) : NONE;
        }

        /** A ROW's STEPS lie on both sides of as many borders between STEPS as its GAP is wide. */
        private long spread() {
            long sum = 0;
            for (int step = 1; step < street.steps; step++) {
                sum += weightInAll() - weightFrom(street.everyone(), step) - weightBelow(step);
            }
            return sum * street.by;
        }

        private long weightBelow(int step) {
            long weight = 1;
            for (int i = 0; i < street.bakers; i++) {
                weight *= ALL_PARTS - partsFrom(i, step);
            }
            return weight;
        }

        private int likelyRows() {
            int rows = 1;
            for (int i = 0; i < street.bakers; i++) {
                int asked = 0;
                for (int step = 0; step < street.steps; step++) {
                    asked += parts[i * MOST_STEPS + step] > 0 ? 1 : 0;
                }
                rows *= asked;
            }
            return rows;
        }

        private long valueOf(int sort, int set) {
            long sum = 0;
            for (int step = 0; step < street.steps; step++) {
                int value = street.worths[sort] - street.price(step);
                if (value > 0) {
                    sum += value * (weightFrom(set, step) - weightFrom(set, step + 1));
                }
            }
            return sum;
        }

        private long savedBy(int sort, int door) {
            int set = street.doors[sort];
            return valueOf(sort, set | 1 << door) - valueOf(sort, set);
        }

        /** WOULD. */
        private int wishedDoor(int sort) {
            int wished = NONE;
            long most = street.door * weightInAll();
            for (int door = 0; door < street.bakers; door++) {
                if (!street.asks(sort, door)) {
                    long saved = savedBy(sort, door);
                    if (saved > most) {
                        most = saved;
                        wished = door;
                    }
                }
            }
            return wished;
        }

        /** LOOK: the rounds gone; the doors stay open. */
        private int lookAround(int rounds) {
            for (int round = 1; round <= rounds; round++) {
                boolean took = false;
                for (int sort = 0; sort < street.sorts; sort++) {
                    int door = street.isWomen(sort) ? wishedDoor(sort) : NONE;
                    if (door != NONE) {
                        street.doors[sort] |= 1 << door;
                        took = true;
                        if (answering != NONE) {
                            gather();
                            answerAnew();
                        }
                    }
                }
                if (!took) {
                    return round;
                }
            }
            return rounds;
        }

        // ---- mornings

        private long mornings(int seed, int mornings, int what) {
            long lot = seed;
            long sum = 0;
            for (int morning = 0; morning < mornings; morning++) {
                for (int baker = 0; baker < street.bakers; baker++) {
                    lot = lot * 6364136223846793005L + 1442695040888963407L;
                    row[baker] = drawnStep(baker, (int) ((lot >>> 33) % ALL_PARTS));
                }
                readRow();
                sum += morningOf(what);
            }
            return sum;
        }

        private int drawnStep(int baker, int drawn) {
            int together = 0;
            for (int step = 0; step < street.steps; step++) {
                together += parts[baker * MOST_STEPS + step];
                if (together > drawn) {
                    return step;
                }
            }
            return 0;
        }

        private long morningOf(int what) {
            if (street.hasBaker(what - 10)) {
                return cheapest[street.everyone()] >> what - 10 & 1;
            }
            if (street.hasBaker(what - 20)) {
                return street.price(row[what - 20]);
            }
            return street.hasSort(what - 30) ? paidInRow(what - 30) : 0;
        }

        private long paidInRow(int sort) {
            long sum = 0;
            for (int set = 1; set <= street.everyone(); set++) {
                int sets = street.setsLike(sort, set, shouted);
                if (sets > 0) {
                    int price = street.price(least[set]);
                    sum += price <= street.worths[sort] ? sets * price : 0;
                }
            }
            return sum * street.numbers[sort] * LOAF;
        }
    }

    /** The RESTS, in several cases at once: with other COSTS of one BAKER, or by other LAWS. */
    private static final class Rests {
        private static final int MOST_CASES = MOST_MORE_COST + 1;

        private final Street street;
        private final Stand stand;
        private final Laws laws;
        private final Trade trade;
        /** For each ROW a bit for each case in which it's a REST. */
        private int[] marks;
        private final int[] stride;
        private final int[] free;
        private final int[] means;
        private int rows;
        private boolean known;

        private Rests(Street street, Stand stand, Laws laws, Trade trade) {
            this.street = street;
            this.stand = stand;
            this.laws = laws;
            this.trade = trade;
            marks = new int[MOST_STEPS];
            stride = new int[MOST_BAKERS];
            free = new int[MOST_CASES];
            means = new int[MOST_LAWS + 1];
            rows = 0;
            known = false;
        }

        private void forget() {
            known = false;
        }

        /** The RESTS as all stands now, in case 0. */
        private void find() {
            if (!known) {
                trade.open(stand.force);
                free[0] = trade.free;
                search(1, NONE);
                known = true;
            }
        }

        private int changingCost(int baker) {
            int cases = 1 + Math.min(MOST_MORE_COST, MOST_COST - stand.costs[baker]);
            trade.open(stand.force);
            Arrays.fill(free, trade.free);
            search(cases, baker);
            known = true;
            int many = howMany(0);
            int first = place(0, 0);
            for (int more = 1; more < cases; more++) {
                if (howMany(more) != many || place(more, 0) != first) {
                    return stand.costs[baker] + more;
                }
            }
            return NONE;
        }

        /** Fills means: at 0 what a SORT pays without a LAW, behind it by each LAW; NONE: nothing. */
        private void tryQuietLaws(int sort) {
            known = false;
            trade.open(NONE);
            for (int i = 0; i <= laws.told; i++) {
                free[i] = laws.free(i - 1, street.steps);
            }
            search(laws.told + 1, NONE);
            for (int i = 0; i <= laws.told; i++) {
                means[i] = meanByFirst(sort, i);
            }
        }

        /** All LAWS that shout are alike: one search serves them all. */
        private void tryShouts(int sort) {
            boolean searched = false;
            int mean = NONE;
            for (int i = 0; i < laws.told; i++) {
                if (laws.shouts(i)) {
                    if (!searched) {
                        trade.open(i);
                        free[0] = trade.free;
                        search(1, NONE);
                        mean = meanByFirst(sort, 0);
                        searched = true;
                    }
                    means[i + 1] = mean;
                }
            }
        }

        private int bestCase() {
            int best = NONE;
            for (int i = 0; i <= laws.told; i++) {
                if (means[i] != NONE && (best == NONE || means[i] < means[best])) {
                    best = i;
                }
            }
            return best;
        }

        private int meanByFirst(int sort, int inCase) {
            int first = place(inCase, 0);
            if (first == NONE) {
                return NONE;
            }
            for (int i = 0; i < street.bakers; i++) {
                trade.makeSure(i, stepIn(first, i));
            }
            return trade.meanOf(sort);
        }

        private void search(int cases, int dearer) {
            countRows();
            Arrays.fill(marks, (1 << cases) - 1);
            for (int baker = 0; baker < street.bakers; baker++) {
                int others = trade.rowsOfOthers();
                trade.firstRow();
                for (int i = 0; i < others; i++) {
                    trade.readRow();
                    trade.weigh(baker);
                    strikeCases(baker, cases, dearer);
                    trade.nextRow(baker);
                }
            }
        }

        private void countRows() {
            rows = 1;
            for (int i = 0; i < street.bakers; i++) {
                stride[i] = rows;
                rows *= street.steps;
            }
            if (marks.length < rows) {
                marks = new int[rows];
            }
        }

        private void strikeCases(int baker, int cases, int dearer) {
            if (dearer != NONE && dearer != baker) {
                strike(baker, (1 << cases) - 1, free[0], stand.costs[baker]);
                return;
            }
            for (int i = 0; i < cases; i++) {
                strike(baker, 1 << i, free[i], stand.costs[baker] + (dearer == baker ? i : 0));
            }
        }

        /** With the others as in the row, only a BAKER's best free STEPS can be in a REST. */
        private void strike(int baker, int bits, int freeSteps, int cost) {
            int base = 0;
            for (int i = 0; i < street.bakers; i++) {
                base += i == baker ? 0 : trade.row[i] * stride[i];
            }
            int most = Integer.MIN_VALUE;
            for (int step = 0; step < street.steps; step++) {
                if ((freeSteps >> step & 1) != 0) {
                    most = Math.max(most, trade.takenAt[step] - cost * trade.soldAt[step]);
                }
            }
            for (int step = 0; step < street.steps; step++) {
                boolean isFree = (freeSteps >> step & 1) != 0;
                int place = base + step * stride[baker];
                if (place < marks.length && (!isFree || trade.takenAt[step] - cost * trade.soldAt[step] < most)) {
                    marks[place] &= ~bits;
                }
            }
        }

        private int howMany(int inCase) {
            int many = 0;
            for (int i = 0; i < rows && i < marks.length; i++) {
                many += marks[i] >> inCase & 1;
            }
            return many;
        }

        /** Where the k-th REST of a case stands among the ROWS; NONE: there is none. */
        private int place(int inCase, int k) {
            int ahead = 0;
            for (int i = 0; i < rows && i < marks.length; i++) {
                if ((marks[i] >> inCase & 1) != 0) {
                    if (ahead == k) {
                        return i;
                    }
                    ahead++;
                }
            }
            return NONE;
        }

        private int stepIn(int place, int baker) {
            return stride[baker] > 0 && street.steps > 0 ? place / stride[baker] % street.steps : 0;
        }

        private int codeOf(int place) {
            if (place == NONE) {
                return NONE;
            }
            int code = 0;
            for (int i = 0; i < street.bakers; i++) {
                code += stepIn(place, i) << 3 * i;
            }
            return code;
        }
    }

    /** CHASE, on the parts that Trade has settled; they are settled anew with the next call. */
    private static final class Chase {
        private static final int NOBODY = 0;
        private static final int RING = 1;
        private static final int SPENT = 2;

        private final Street street;
        private final Stand stand;
        private final Trade trade;
        /** The STEP of each BAKER, NONE while it asks by LOTS. */
        private final int[] steps;
        private final int[] history;
        private int ending;
        private int gone;
        private int ring;

        private Chase(Street street, Stand stand, Trade trade) {
            this.street = street;
            this.stand = stand;
            this.trade = trade;
            steps = new int[MOST_BAKERS];
            history = new int[MOST_CHASES + 1];
            ending = NOBODY;
            gone = 0;
            ring = 0;
        }

        private void go(int rounds) {
            begin();
            for (int i = 1; i <= rounds && i < history.length; i++) {
                gone = i;
                if (!round()) {
                    ending = NOBODY;
                    return;
                }
                history[i] = code();
                ring = roundsSince(i);
                if (ring > 0) {
                    ending = RING;
                    return;
                }
            }
            ending = SPENT;
        }

        private void begin() {
            for (int i = 0; i < street.bakers; i++) {
                steps[i] = stand.kinds[i] == SURE ? trade.drawnStep(i, 0) : NONE;
            }
            history[0] = code();
            gone = 0;
            ring = 0;
        }

        private boolean round() {
            boolean moved = false;
            for (int i = 0; i < street.bakers; i++) {
                int better = trade.betterStep(i);
                if (better != NONE) {
                    trade.makeSure(i, better);
                    steps[i] = better;
                    moved = true;
                }
            }
            return moved;
        }

        /** LOTS need no more than one sign: a BAKER that left them never comes back to them. */
        private int code() {
            int code = 0;
            for (int i = 0; i < street.bakers; i++) {
                code = code * (MOST_STEPS + 1) + steps[i] + 1;
            }
            return code;
        }

        private int roundsSince(int now) {
            for (int i = 0; i < now; i++) {
                if (history[i] == history[now]) {
                    return now - i;
                }
            }
            return 0;
        }
    }

    /** LOTS of two: what a and b EARN by the four couples, times the others' WEIGHTS. */
    private static final class Duel {
        private final Trade trade;
        private long aLowLow;
        private long aLowHigh;
        private long aHighLow;
        private long aHighHigh;
        private long bLowLow;
        private long bLowHigh;
        private long bHighLow;
        private long bHighHigh;

        private Duel(Trade trade) {
            this.trade = trade;
        }

        private void fill(int a, int b, int low, int high) {
            trade.makeSure(a, low);
            trade.survey(b);
            bLowLow = trade.gainAt(b, low);
            bLowHigh = trade.gainAt(b, high);
            trade.makeSure(a, high);
            trade.survey(b);
            bHighLow = trade.gainAt(b, low);
            bHighHigh = trade.gainAt(b, high);
            trade.makeSure(b, low);
            trade.survey(a);
            aLowLow = trade.gainAt(a, low);
            aHighLow = trade.gainAt(a, high);
            trade.makeSure(b, high);
            trade.survey(a);
            aLowHigh = trade.gainAt(a, low);
            aHighHigh = trade.gainAt(a, high);
        }

        private boolean hasRest() {
            return aLowLow >= aHighLow && bLowLow >= bLowHigh
                || aLowHigh >= aHighHigh && bLowHigh >= bLowLow
                || aHighLow >= aLowLow && bHighLow >= bHighHigh
                || aHighHigh >= aLowHigh && bHighHigh >= bHighLow;
        }

        private long share(int what) {
            long part = what < 2 ? bHighHigh - bHighLow : aHighHigh - aLowHigh;
            long whole = what < 2
                ? bLowLow - bLowHigh - bHighLow + bHighHigh
                : aLowLow - aLowHigh - aHighLow + aHighHigh;
            long divisor = divisorOf(Math.abs(part), Math.abs(whole));
            if (divisor == 0) {
                return NONE;
            }
            if (whole < 0) {
                divisor = -divisor;
            }
            return what % 2 == 0 ? part / divisor : whole / divisor;
        }

        private static long divisorOf(long a, long b) {
            long larger = a;
            long smaller = b;
            for (int i = 0; i < 1000 && smaller != 0; i++) {
                long rest = larger % smaller;
                larger = smaller;
                smaller = rest;
            }
            return larger;
        }
    }
}
