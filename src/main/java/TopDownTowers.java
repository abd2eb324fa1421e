/** Towers that are built roof first, on jacks: what is told of them, what is up, what is foretold. */
public final class TopDownTowers {
    public static final int NONE = -1, UNKNOWN = -2, OUTSIDE = -3, NOT = -4, FULL = -5;

    private static final int MOST_STOREYS = 8, MOST_PAIRS = 8, MOST_BYTES = 200, MOST_LINES = 12;
    private static final int MOST_IN_ROW = 8, MOST_SEEN = 8, MOST_KEPT = 2, SETS = 256;
    private static final int LAST_DAY = 9999, TOLD_DAYS = 40, STORM = 9, MOST_REST = 99;
    private static final int MOST_WEIGHT = 99, MOST_INCHES = 999, MOST_CHANCES = 18, TENTHS = 10;

    /** More than all STOREYS with their FOLK can weigh: jacks that never are the reason. */
    private static final int ENDLESS_JACKS = 9999;

    private static final int ROOM = 0, ROOF = 1, CELLAR = 2, BELLS = 3;
    private static final int AS_STOREY = 0, AS_ROOM = 1, AS_BELLS = 4;
    private static final int CAN_BE = 0, IS_UP = 1, NO_PLACE = 2, TOO_WEAK = 3, JACKS_TOO_WEAK = 4, TOO_WINDY = 5;

    private final Text text = new Text();
    private final Site told = new Site();
    private final Reader reader = new Reader(text);
    private final Tower tower = new Tower();
    private final Tower[] kept = new Tower[MOST_KEPT];
    private final boolean[] isKept = new boolean[MOST_KEPT];
    private final int[] lifts = new int[MOST_IN_ROW];
    private int liftsMany;
    private final int[] seenAt = new int[MOST_SEEN];
    private final int[] seenInches = new int[MOST_SEEN];
    private int seenMany;

    /** Rows that calls fill anew and leave behind: made once, so that calls make no objects. */
    private final int[] ways = new int[SETS];
    private final int[] trial = new int[MOST_STOREYS];

    public TopDownTowers() {
        for (int k = 0; k < kept.length; k++) {
            kept[k] = new Tower();
        }
    }

    // ---- what is told

    public int write(long bytes, int n) {
        if (n < 1 || n > 8) {
            return OUTSIDE;
        }
        if (text.length + n > MOST_BYTES) {
            return FULL;
        }
        for (int i = 0; i < n; i++) {
            text.append((int) (bytes >> 8 * i & 255));
        }
        return text.length;
    }

    public int erase() {
        int had = text.length;
        text.length = 0;
        return had;
    }

    public int fault() {
        return reader.firstFault(told);
    }

    public int site() {
        if (reader.firstFault(told) != NONE) {
            return NOT;
        }
        told.copyFrom(reader.draft);
        text.length = 0;
        tower.startAnew();
        liftsMany = 0;
        seenMany = 0;
        for (int k = 0; k < isKept.length; k++) {
            isKept[k] = false;
        }
        return reader.lines;
    }

    public int storey(int storey, int what) {
        if (!told.has(storey)) {
            return UNKNOWN;
        }
        switch (what) {
            case 0:
                return told.kind[storey];
            case 1:
                return told.weight[storey];
            case 2:
                return told.strength[storey];
            case 3:
                return told.height[storey];
            case 4:
                return told.folk[storey];
            default:
                return OUTSIDE;
        }
    }

    public int as(int storey, int kind) {
        if (!told.has(storey)) {
            return UNKNOWN;
        }
        if (kind < AS_STOREY || kind > AS_BELLS) {
            return OUTSIDE;
        }
        return isSuch(told.kind[storey], kind) ? told.loadOf(1 << storey) : NOT;
    }

    /** Each KIND as it is told is, among those over one another, one further: STOREY stands ahead of all. */
    private static boolean isSuch(int toldKind, int kind) {
        if (kind == AS_STOREY || kind == toldKind + 1) {
            return true;
        }
        return kind == AS_ROOM && toldKind != BELLS;
    }

    // ---- days

    public int why(int storey) {
        return told.has(storey) ? whyNotToday(storey) : UNKNOWN;
    }

    private int whyNotToday(int storey) {
        return told.whyNotOn(tower.day, storey, tower.set());
    }

    public int lift(int storey) {
        if (!told.has(storey)) {
            return UNKNOWN;
        }
        if (whyNotToday(storey) != CAN_BE) {
            return NOT;
        }
        if (tower.day >= LAST_DAY) {
            return FULL;
        }
        tower.setBelow(storey);
        tower.day++;
        return tower.many;
    }

    public int rest(int n) {
        if (n < 1 || n > MOST_REST) {
            return OUTSIDE;
        }
        if (tower.day + n > LAST_DAY) {
            return FULL;
        }
        tower.day += n;
        return tower.day;
    }

    public int up(int i) {
        if (i < 0) {
            return OUTSIDE;
        }
        return i < tower.many ? tower.order[i] : NONE;
    }

    public int floor(int storey) {
        if (!told.has(storey)) {
            return UNKNOWN;
        }
        int place = tower.placeOf(storey);
        if (place == NONE) {
            return NONE;
        }
        return told.heightOf(tower.set() & ~tower.firstOnes(place + 1));
    }

    public int keep(int k) {
        if (!hasKeepAt(k)) {
            return UNKNOWN;
        }
        kept[k].copyFrom(tower);
        isKept[k] = true;
        return tower.many;
    }

    public int back(int k) {
        if (!hasKeepAt(k)) {
            return UNKNOWN;
        }
        if (!isKept[k]) {
            return NOT;
        }
        tower.copyFrom(kept[k]);
        seenMany = 0;
        return tower.many;
    }

    private boolean hasKeepAt(int k) {
        return k >= 0 && k < MOST_KEPT && kept[k] != null;
    }

    // ---- foretold

    public int orders(int i) {
        if (i < NONE) {
            return OUTSIDE;
        }
        countWaysOn();
        if (i == NONE) {
            return ways[0];
        }
        if (ways[0] == 0 || i >= told.storeys) {
            return NONE;
        }
        return ofFirstOrder(i);
    }

    /** From the full set down, as the ways on from a set are those on from the sets with one more. */
    private void countWaysOn() {
        int all = told.all();
        ways[all] = 1;
        for (int set = all - 1; set >= 0; set--) {
            int load = told.loadOf(set);
            int many = 0;
            for (int storey = 0; storey < told.storeys; storey++) {
                if (told.whyNot(storey, set, load, told.bears) == CAN_BE) {
                    many += ways[set | 1 << storey];
                }
            }
            ways[set] = many;
        }
    }

    /** The least STOREY from which there is a way on, again and again; the ways on are counted already. */
    private int ofFirstOrder(int i) {
        int set = 0;
        int next = NONE;
        for (int place = 0; place <= i && place < told.storeys; place++) {
            next = leastWithWayOn(set);
            if (next == NONE) {
                return NONE;
            }
            set |= 1 << next;
        }
        return next;
    }

    private int leastWithWayOn(int set) {
        int load = told.loadOf(set);
        for (int storey = 0; storey < told.storeys; storey++) {
            if (told.whyNot(storey, set, load, told.bears) == CAN_BE && ways[set | 1 << storey] > 0) {
                return storey;
            }
        }
        return NONE;
    }

    public int tallest(int what) {
        if (what < 0 || what > 1) {
            return OUTSIDE;
        }
        countWaysTo(told.bears);
        int tallestSet = 0;
        int tallestHeight = 0;
        for (int set = 1; set <= told.all(); set++) {
            int height = ways[set] > 0 ? told.heightOf(set) : 0;
            if (height > tallestHeight) {
                tallestSet = set;
                tallestHeight = height;
            }
        }
        return what == 0 ? tallestHeight : tallestSet;
    }

    /** In how many ways each set can come to be up, by jacks that bear so much. */
    private void countWaysTo(int bears) {
        int all = told.all();
        for (int set = 0; set <= all; set++) {
            ways[set] = 0;
        }
        ways[0] = 1;
        for (int set = 0; set < all; set++) {
            if (ways[set] > 0) {
                passWaysOn(set, bears);
            }
        }
    }

    private void passWaysOn(int set, int bears) {
        int load = told.loadOf(set);
        for (int storey = 0; storey < told.storeys; storey++) {
            if (told.whyNot(storey, set, load, bears) == CAN_BE) {
                ways[set | 1 << storey] += ways[set];
            }
        }
    }

    /** LOAD only grows, so the last LIFT is the one that asks most of the jacks. */
    public int jacks() {
        if (told.storeys == 0) {
            return 0;
        }
        countWaysTo(ENDLESS_JACKS);
        int least = NONE;
        for (int last = 0; last < told.storeys; last++) {
            int set = told.all() & ~(1 << last);
            int load = told.loadOf(set);
            boolean can = ways[set] > 0 && told.whyNot(last, set, load, ENDLESS_JACKS) == CAN_BE;
            if (can && (least == NONE || load < least)) {
                least = load;
            }
        }
        return least;
    }

    public int soonest(int many) {
        if (many < 1 || many > MOST_STOREYS) {
            return OUTSIDE;
        }
        int left = many;
        for (int day = 0; day < TOLD_DAYS; day++) {
            if (told.windOf(day) != STORM) {
                left--;
            }
            if (left == 0) {
                return day;
            }
        }
        return TOLD_DAYS + left - 1;
    }

    public long odds(int d, int k, int p, int part) {
        if (d < 0 || d > MOST_CHANCES || k < 0 || k > MOST_CHANCES) {
            return OUTSIDE;
        }
        if (p < 0 || p > TENTHS || part < 0 || part > 1) {
            return OUTSIDE;
        }
        long above = 0;
        long chosen = 1;
        for (int still = 0; still <= d; still++) {
            if (still >= k) {
                above += chosen * power(TENTHS - p, still) * power(p, d - still);
            }
            chosen = chosen * (d - still) / (still + 1);
        }
        long below = power(TENTHS, d);
        long shared = sharedDivisor(above, below);
        if (shared < 1) {
            return OUTSIDE;
        }
        return part == 0 ? above / shared : below / shared;
    }

    private static long power(int base, int exponent) {
        long product = 1;
        for (int i = 0; i < exponent; i++) {
            product *= base;
        }
        return product;
    }

    /** Numbers up to ten to the eighteenth need fewer than ninety steps. */
    private static long sharedDivisor(long a, long b) {
        long greater = a;
        long lesser = b;
        for (int i = 0; i < 200 && lesser != 0; i++) {
            long remainder = greater % lesser;
            greater = lesser;
            lesser = remainder;
        }
        return greater;
    }

    public int without(int storey) {
        if (!told.has(storey)) {
            return UNKNOWN;
        }
        int place = tower.placeOf(storey);
        if (place == NONE) {
            return NOT;
        }
        int many = 0;
        for (int i = 0; i < tower.many; i++) {
            if (i != place) {
                trial[many] = tower.order[i];
                many++;
            }
        }
        return firstStuck(many);
    }

    public int in(int storey, int i) {
        if (!told.has(storey)) {
            return UNKNOWN;
        }
        if (i < 0 || i > tower.many) {
            return OUTSIDE;
        }
        if (tower.placeOf(storey) != NONE || tower.many >= MOST_STOREYS) {
            return NOT;
        }
        for (int j = 0; j < tower.many; j++) {
            trial[j < i ? j : j + 1] = tower.order[j];
        }
        trial[i] = storey;
        return firstStuck(tower.many + 1) == NONE ? 1 : 0;
    }

    /** The first of the trial's LIFTS that could not be, winds left out. */
    private int firstStuck(int many) {
        int set = 0;
        for (int i = 0; i < many && i < trial.length; i++) {
            if (told.whyNot(trial[i], set, told.loadOf(set), told.bears) != CAN_BE) {
                return i;
            }
            set |= 1 << trial[i];
        }
        return NONE;
    }

    // ---- rows, what was seen

    public int row(int storey) {
        if (!told.has(storey)) {
            return UNKNOWN;
        }
        if (liftsMany >= MOST_IN_ROW) {
            return FULL;
        }
        lifts[liftsMany] = storey;
        liftsMany++;
        return liftsMany;
    }

    public int burn() {
        int had = liftsMany;
        liftsMany = 0;
        return had;
    }

    public int judge(int what) {
        if (what < 0 || what > 1) {
            return OUTSIDE;
        }
        int set = 0;
        for (int day = 0; day < liftsMany; day++) {
            int reason = told.whyNotOn(day, lifts[day], set);
            if (reason != CAN_BE) {
                return what == 0 ? day : reason;
            }
            set |= 1 << lifts[day];
        }
        return what == 0 ? NONE : CAN_BE;
    }

    public int seen(int i, int g) {
        if (i < 0 || i >= tower.many || g < 0 || g > MOST_INCHES) {
            return OUTSIDE;
        }
        if (seenMany >= MOST_SEEN) {
            return FULL;
        }
        seenAt[seenMany] = i;
        seenInches[seenMany] = g;
        seenMany++;
        return seenMany;
    }

    public int forget() {
        int had = seenMany;
        seenMany = 0;
        return had;
    }

    /** One LOAD more or less moves the inches one way only, so the WEIGHTS that fit lie in a row. */
    public int fits(int storey, int what) {
        if (!told.has(storey)) {
            return UNKNOWN;
        }
        if (what < 0 || what > 2) {
            return OUTSIDE;
        }
        int least = 1;
        int greatest = MOST_WEIGHT;
        for (int j = 0; j < seenMany; j++) {
            int lifted = tower.firstOnes(seenAt[j]);
            int leastMore = seenInches[j] * told.soft - told.loadOf(lifted);
            int mostMore = leastMore + told.soft - 1;
            if ((lifted >> storey & 1) == 1) {
                least = Math.max(least, told.weight[storey] + leastMore);
                greatest = Math.min(greatest, told.weight[storey] + mostMore);
            } else if (leastMore > 0 || mostMore < 0) {
                greatest = 0;
            }
        }
        int many = Math.max(0, greatest - least + 1);
        if (what == 0) {
            return many;
        }
        if (many == 0) {
            return NONE;
        }
        return what == 1 ? least : greatest;
    }

    public int count(int what) {
        switch (what) {
            case 0:
                return told.storeys;
            case 1:
                return told.bears;
            case 2:
                return told.soft;
            case 3:
                return told.pairs;
            case 4:
                return tower.many;
            case 5:
                return tower.day;
            case 6:
                return told.heightOf(tower.set());
            case 7:
                return told.loadOf(tower.set());
            case 8:
                return told.windOf(tower.day);
            case 9:
                return liftsMany;
            case 10:
                return seenMany;
            case 11:
                return text.length;
            default:
                return OUTSIDE;
        }
    }

    /** What is told. Sets of STOREYS are numbers by bits: bit s for STOREY s. */
    private static final class Site {
        private int storeys;
        private int pairs;
        private int bears;
        private int soft;
        private int cellars;
        private final int[] kind = new int[MOST_STOREYS];
        private final int[] weight = new int[MOST_STOREYS];
        private final int[] strength = new int[MOST_STOREYS];
        private final int[] height = new int[MOST_STOREYS];
        private final int[] folk = new int[MOST_STOREYS];
        /** By STOREY, the set that must be above it: no call asks for a PAIR itself, so PAIRS are but counted. */
        private final int[] mustBeAbove = new int[MOST_STOREYS];
        private final int[] wind = new int[TOLD_DAYS];

        private Site() {
            startAnew();
        }

        private void startAnew() {
            storeys = 0;
            pairs = 0;
            bears = 500;
            soft = 10;
            cellars = 0;
            tellWind(0, TOLD_DAYS - 1, 0);
        }

        private void copyFrom(Site other) {
            storeys = other.storeys;
            pairs = other.pairs;
            bears = other.bears;
            soft = other.soft;
            cellars = other.cellars;
            System.arraycopy(other.kind, 0, kind, 0, MOST_STOREYS);
            System.arraycopy(other.weight, 0, weight, 0, MOST_STOREYS);
            System.arraycopy(other.strength, 0, strength, 0, MOST_STOREYS);
            System.arraycopy(other.height, 0, height, 0, MOST_STOREYS);
            System.arraycopy(other.folk, 0, folk, 0, MOST_STOREYS);
            System.arraycopy(other.mustBeAbove, 0, mustBeAbove, 0, MOST_STOREYS);
            System.arraycopy(other.wind, 0, wind, 0, TOLD_DAYS);
        }

        private void tellStorey(int itsKind, int itsWeight, int itsStrength, int itsHeight) {
            if (storeys >= MOST_STOREYS) {
                return;
            }
            kind[storeys] = itsKind;
            weight[storeys] = itsWeight;
            strength[storeys] = itsStrength;
            height[storeys] = itsHeight;
            folk[storeys] = 0;
            mustBeAbove[storeys] = 0;
            if (itsKind == CELLAR) {
                cellars |= 1 << storeys;
            }
            storeys++;
        }

        private void tellFolk(int storey, int pounds) {
            if (has(storey)) {
                folk[storey] = pounds;
            }
        }

        private void tellWind(int from, int to, int value) {
            for (int day = from; day >= 0 && day <= to && day < TOLD_DAYS; day++) {
                wind[day] = value;
            }
        }

        private void tellPair(int upper, int lower) {
            if (has(upper) && has(lower)) {
                mustBeAbove[lower] |= 1 << upper;
                pairs++;
            }
        }

        private boolean has(int storey) {
            return storey >= 0 && storey < storeys;
        }

        private int all() {
            return (1 << storeys) - 1;
        }

        private int loadOf(int set) {
            int load = 0;
            for (int storey = 0; storey < storeys; storey++) {
                if ((set >> storey & 1) == 1) {
                    load += weight[storey] + folk[storey];
                }
            }
            return load;
        }

        private int heightOf(int set) {
            int together = 0;
            for (int storey = 0; storey < storeys; storey++) {
                if ((set >> storey & 1) == 1) {
                    together += height[storey];
                }
            }
            return together;
        }

        private int windOf(int day) {
            return day >= 0 && day < TOLD_DAYS ? wind[day] : 0;
        }

        /** WHY, winds left out: a STOREY below a set of that LOAD, by jacks that bear so much. */
        private int whyNot(int storey, int set, int load, int jacksBear) {
            if ((set >> storey & 1) == 1) {
                return IS_UP;
            }
            if (!hasPlace(storey, set)) {
                return NO_PLACE;
            }
            if (strength[storey] < load) {
                return TOO_WEAK;
            }
            return jacksBear < load ? JACKS_TOO_WEAK : CAN_BE;
        }

        private boolean hasPlace(int storey, int set) {
            if (kind[storey] == ROOF && set != 0) {
                return false;
            }
            if ((cellars & set) != 0) {
                return false;
            }
            if (kind[storey] == BELLS && Integer.bitCount(set) >= 3) {
                return false;
            }
            return (mustBeAbove[storey] & ~set) == 0;
        }

        private int whyNotOn(int day, int storey, int set) {
            int reason = whyNot(storey, set, loadOf(set), bears);
            if (reason == CAN_BE && windOf(day) == STORM) {
                return TOO_WINDY;
            }
            return reason;
        }
    }

    /** What is up, from the topmost on, and the DAY. */
    private static final class Tower {
        private int many;
        private int day;
        private final int[] order = new int[MOST_STOREYS];

        private void startAnew() {
            many = 0;
            day = 0;
        }

        private void copyFrom(Tower other) {
            many = other.many;
            day = other.day;
            System.arraycopy(other.order, 0, order, 0, MOST_STOREYS);
        }

        private void setBelow(int storey) {
            if (many < MOST_STOREYS) {
                order[many] = storey;
                many++;
            }
        }

        private int set() {
            return firstOnes(many);
        }

        private int firstOnes(int howMany) {
            int ones = 0;
            for (int i = 0; i < howMany && i < many; i++) {
                ones |= 1 << order[i];
            }
            return ones;
        }

        private int placeOf(int storey) {
            for (int i = 0; i < many; i++) {
                if (order[i] == storey) {
                    return i;
                }
            }
            return NONE;
        }
    }

    /** THE TEXT. */
    private static final class Text {
        private int length;
        private final char[] bytes = new char[MOST_BYTES];

        private void append(int value) {
            if (length < MOST_BYTES) {
                bytes[length] = (char) value;
                length++;
            }
        }

        /** The first place from there on whose byte is not between the two. */
        private int endOfThose(int from, char least, char greatest) {
            int end = from;
            while (end >= 0 && end < length && bytes[end] >= least && bytes[end] <= greatest) {
                end++;
            }
            return end;
        }

        private boolean isBetween(int place, char least, char greatest) {
            return place >= 0 && place < length && bytes[place] >= least && bytes[place] <= greatest;
        }

        private boolean reads(int from, int to, String word) {
            if (from < 0 || to > length || to - from != word.length()) {
                return false;
            }
            for (int i = 0; i < word.length(); i++) {
                if (bytes[from + i] != word.charAt(i)) {
                    return false;
                }
            }
            return true;
        }
    }

    /** Reads THE TEXT to its first FAULT and does its LINES on a draft: so a LINE knows what those ahead told. */
    private static final class Reader {
        /** Words of STOREYS are numbered as their KINDS. */
        private static final int WORD_FOLK = 4, WORD_JACKS = 5, WORD_SOFT = 6, WORD_WIND = 7;
        private static final int WORD_ABOVE = 8, WORD_SITE = 9, WORDS = 10;

        private final Text text;
        private final Site draft = new Site();
        private final int[] numbers = new int[3];
        private int lines;
        /** The TOKEN at hand: from its first byte to behind its last one; both the length at the end. */
        private int start;
        private int end;

        private Reader(Text text) {
            this.text = text;
        }

        private int firstFault(Site told) {
            draft.copyFrom(told);
            end = 0;
            step();
            lines = 0;
            while (lines < MOST_LINES && lineStands()) {
                lines++;
                if (start == text.length) {
                    return NONE;
                }
                if (lines == MOST_LINES || !text.isBetween(start, ';', ';')) {
                    return start;
                }
                step();
            }
            return start;
        }

        private void step() {
            start = text.endOfThose(end, ' ', ' ');
            if (text.isBetween(start, 'a', 'z')) {
                end = text.endOfThose(start, 'a', 'z');
            } else if (text.isBetween(start, '0', '9')) {
                end = text.endOfThose(start, '0', '9');
            } else {
                end = Math.min(start + 1, text.length);
            }
        }

        /** Reads a LINE and does it; if not, the TOKEN at hand is the one that cannot stand there. */
        private boolean lineStands() {
            int word = wordHere();
            if (word == NONE || !hasRoomFor(word)) {
                return false;
            }
            step();
            switch (word) {
                case WORD_SITE:
                    draft.startAnew();
                    return true;
                case WORD_FOLK:
                    return folkStand();
                case WORD_JACKS:
                    return jacksStand();
                case WORD_SOFT:
                    return softStands();
                case WORD_WIND:
                    return windStands();
                case WORD_ABOVE:
                    return pairStands();
                default:
                    return storeyStands(word);
            }
        }

        private int wordHere() {
            for (int word = 0; word < WORDS; word++) {
                if (text.reads(start, end, spelling(word))) {
                    return word;
                }
            }
            return NONE;
        }

        private static String spelling(int word) {
            switch (word) {
                case ROOM:
                    return "room";
                case ROOF:
                    return "roof";
                case CELLAR:
                    return "cellar";
                case BELLS:
                    return "bells";
                case WORD_FOLK:
                    return "folk";
                case WORD_JACKS:
                    return "jacks";
                case WORD_SOFT:
                    return "soft";
                case WORD_WIND:
                    return "wind";
                case WORD_ABOVE:
                    return "above";
                default:
                    return "site";
            }
        }

        private boolean hasRoomFor(int word) {
            if (word <= BELLS) {
                return draft.storeys < MOST_STOREYS;
            }
            return word != WORD_ABOVE || draft.pairs < MOST_PAIRS;
        }

        private boolean storeyStands(int kind) {
            if (!numberStands(0, 1, MOST_WEIGHT) || !numberStands(1, 0, 999) || !numberStands(2, 1, 9)) {
                return false;
            }
            draft.tellStorey(kind, numbers[0], numbers[1], numbers[2]);
            return true;
        }

        private boolean folkStand() {
            if (!numberStands(0, 0, draft.storeys - 1) || !numberStands(1, 0, 99)) {
                return false;
            }
            draft.tellFolk(numbers[0], numbers[1]);
            return true;
        }

        private boolean jacksStand() {
            if (!numberStands(0, 0, 999)) {
                return false;
            }
            draft.bears = numbers[0];
            return true;
        }

        private boolean softStands() {
            if (!numberStands(0, 1, 99)) {
                return false;
            }
            draft.soft = numbers[0];
            return true;
        }

        private boolean windStands() {
            if (!numberStands(0, 0, TOLD_DAYS - 1) || !numberStands(1, numbers[0], TOLD_DAYS - 1)) {
                return false;
            }
            if (!numberStands(2, 0, 9)) {
                return false;
            }
            draft.tellWind(numbers[0], numbers[1], numbers[2]);
            return true;
        }

        private boolean pairStands() {
            int last = draft.storeys - 1;
            if (!numberStands(0, 0, last) || numberHere() == numbers[0] || !numberStands(1, 0, last)) {
                return false;
            }
            draft.tellPair(numbers[0], numbers[1]);
            return true;
        }

        /** Goes on behind the number only if it stands: else it is where the FAULT is. */
        private boolean numberStands(int slot, int least, int greatest) {
            int value = numberHere();
            if (value == NONE || value < least || value > greatest) {
                return false;
            }
            if (slot < 0 || slot >= numbers.length) {
                return false;
            }
            numbers[slot] = value;
            step();
            return true;
        }

        private int numberHere() {
            if (!text.isBetween(start, '0', '9') || end - start > 3) {
                return NONE;
            }
            int value = 0;
            for (int i = start; i < end && i < text.length; i++) {
                value = 10 * value + text.bytes[i] - '0';
            }
            return value;
        }
    }
}
