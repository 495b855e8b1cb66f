/** Dumplings bob for office: whoever of a stew's dumplings is up first is in. */
public final class DumplingPolls {
    public static final int BAD = -1, STATE = -2, FULL = -3, NONE = -9;
    public static final int NO = -1000000;

    private static final int MOST = 6;
    private static final int SETS = 1 << MOST;
    private static final int BOTTOM = 10;
    private static final int MOST_WEIGHT = 40;
    private static final int MOST_SIZE = 30;
    private static final int MOST_HEAT = 9;
    private static final int MOST_SWELL = 3;
    private static final int LEAST_ROOM = 9;
    private static final int MOST_ROOM = 40;
    private static final int MOST_SEATS = 54;
    private static final int LAST_MINUTE = 99;
    private static final int FARTHEST = 40;
    private static final int LONGEST_LOOK = 20;
    private static final int TENTHS = 10;

    private final Reader reader;
    private final Recipe told;
    private final Recipe read;
    private final Stew stew;
    private final Stew later;
    private final Past past;
    private final Stew imageZero;
    private final Stew imageOne;
    private int imagesKept;
    private final Sightings seen;
    private final int[] potsOfSet;
    private final int[] alike;
    private long traced;

    public DumplingPolls() {
        reader = new Reader();
        told = new Recipe();
        read = new Recipe();
        stew = new Stew();
        later = new Stew();
        past = new Past();
        imageZero = new Stew();
        imageOne = new Stew();
        seen = new Sightings();
        potsOfSet = new int[SETS];
        alike = new int[BOTTOM + 1];
        told.setAsAtFirst();
        stew.begin(told);
    }

    // ---- the pot

    public int type(int letter) {
        if (letter < 0 || letter > 255) {
            return BAD;
        }
        return reader.add(letter) ? reader.length : FULL;
    }

    public int clear() {
        int had = reader.length;
        reader.length = 0;
        return had;
    }

    public int pot() {
        int items = reader.readInto(read);
        if (items < 0) {
            return items;
        }
        told.copy(read);
        stew.begin(told);
        reader.length = 0;
        past.known = 0;
        imagesKept = 0;
        seen.known = 0;
        return items;
    }

    public int dumpling(int d, int what) {
        if (!isTold(d)) {
            return BAD;
        }
        switch (what) {
            case 0: return told.weight[d];
            case 1: return stew.size[d];
            case 2: return told.swell[d];
            case 3: return told.seats[d];
            case 4: return stew.depth[d];
            case 5: return stew.lump[d];
            case 6: return stew.risen[d];
            default: return BAD;
        }
    }

    public int now(int what) {
        switch (what) {
            case 0: return stew.minute;
            case 1: return stew.heat;
            case 2: return dryOnes();
            case 3: return stew.upOnes();
            case 4: return Integer.bitCount(stew.risenOnes());
            case 5: return fewestPots();
            case 6: return past.known;
            default: return BAD;
        }
    }

    public int order(int k) {
        if (k < 0 || k >= MOST) {
            return BAD;
        }
        for (int d = 0; d < MOST; d++) {
            if (stew.hasRisen(d) && stew.risenAheadOf(d) == k) {
                return d;
            }
        }
        return NONE;
    }

    // ---- what is done

    public int drops(int d) {
        if (!isTold(d)) {
            return BAD;
        }
        if (!stew.isDry(d)) {
            return STATE;
        }
        past.remember(stew);
        stew.drop(d);
        return Integer.bitCount(stew.wetOnes());
    }

    public int minute() {
        if (stew.minute >= LAST_MINUTE) {
            return STATE;
        }
        past.remember(stew);
        stew.passMinute(told);
        return Integer.bitCount(stew.upOnes());
    }

    public int heats(int n) {
        if (n < 0 || n > MOST_HEAT) {
            return BAD;
        }
        if (stew.heat == n) {
            return STATE;
        }
        past.remember(stew);
        int tillThen = stew.heat;
        stew.heat = n;
        return tillThen;
    }

    public int skewers(int d) {
        if (!isTold(d)) {
            return BAD;
        }
        if (stew.isDry(d)) {
            return STATE;
        }
        past.remember(stew);
        stew.skewer(d);
        return stew.size[d];
    }

    public int dips(int d) {
        if (!isTold(d)) {
            return BAD;
        }
        if (stew.depth[d] != 0) {
            return STATE;
        }
        past.remember(stew);
        stew.dip(d);
        return Integer.bitCount(dryOnes());
    }

    public int undo() {
        if (past.known == 0) {
            return STATE;
        }
        past.recall(stew);
        return past.known;
    }

    // ---- foretold

    public int deep(int d, int n) {
        if (!isTold(d) || n < 0 || n > FARTHEST) {
            return BAD;
        }
        later.copy(stew);
        for (int i = 0; i < n; i++) {
            later.passMinute(told);
        }
        return later.depth[d];
    }

    public int when(int d) {
        if (!isTold(d)) {
            return BAD;
        }
        if (stew.isDry(d)) {
            return STATE;
        }
        return minutesTillUp(d, FARTHEST, stew.heat);
    }

    public int warm(int d, int n) {
        if (!isTold(d) || n < 1 || n > FARTHEST) {
            return BAD;
        }
        if (stew.isDry(d)) {
            return STATE;
        }
        for (int heat = 0; heat <= MOST_HEAT; heat++) {
            if (minutesTillUp(d, n, heat) != NONE) {
                return heat;
            }
        }
        return NONE;
    }

    public int kept(int d, int n) {
        if (!isTold(d) || n < 1 || n > FARTHEST) {
            return BAD;
        }
        if (!stew.isDry(d) || stew.hasRisen(d)) {
            return STATE;
        }
        int dry = dryOnes();
        int others = dry & ~(1 << d);
        int best = NONE;
        for (int out = 0; out < SETS; out++) {
            boolean mayBe = (out & ~others) == 0 && isFewer(out, best);
            if (mayBe && risesFirst(d, n, dry & ~out)) {
                best = out;
            }
        }
        return best;
    }

    public int party(int q) {
        if (q < 1 || q > MOST_SEATS) {
            return BAD;
        }
        int all = told.all();
        int best = NONE;
        for (int set = 0; set <= all; set++) {
            if (isFewer(set, best) && told.seatsOf(set) >= q) {
                best = set;
            }
        }
        return best;
    }

    public int power(int d, int q) {
        if (!isTold(d) || q < 1 || q > MOST_SEATS) {
            return BAD;
        }
        int all = told.all();
        int own = told.seats[d];
        int decided = 0;
        for (int set = 0; set <= all; set++) {
            int seats = told.seatsOf(set);
            if ((set >> d & 1) == 0 && seats < q && seats + own >= q) {
                decided++;
            }
        }
        return decided;
    }

    public int odds(int x, int k, int what) {
        if (x < 0 || x > TENTHS || k < 0 || k > MOST || what < 0 || what > 1) {
            return BAD;
        }
        int wet = Integer.bitCount(stew.wetOnes());
        int upper = 0;
        for (int sunk = 0; sunk < 1 << wet; sunk++) {
            int many = Integer.bitCount(sunk);
            if (many <= k) {
                upper += raised(x, many) * raised(TENTHS - x, wet - many);
            }
        }
        int lower = raised(TENTHS, wet);
        int common = greatestCommon(upper, lower);
        int part = what == 0 ? upper : lower;
        return common > 0 ? part / common : part;
    }

    // ---- weights

    public int sees(int d, int m, int v) {
        if (!isTold(d) || m < 1 || m > LONGEST_LOOK || v < 0 || v > BOTTOM) {
            return BAD;
        }
        return seen.add(d, m, v) ? seen.known : FULL;
    }

    public int forget() {
        int was = seen.known;
        seen.known = 0;
        return was;
    }

    public int weights(int d, int what) {
        if (!isTold(d) || what < 0 || what > 2) {
            return BAD;
        }
        long fitting = fittingWeights(d);
        if (what == 0) {
            return Long.bitCount(fitting);
        }
        return what == 1 ? least(fitting) : greatest(fitting);
    }

    public int look(int d) {
        if (!isTold(d)) {
            return BAD;
        }
        long fitting = fittingWeights(d);
        if (Long.bitCount(fitting) <= 1) {
            return NONE;
        }
        int best = NONE;
        int fewest = MOST_WEIGHT + 2;
        for (int m = 1; m <= LONGEST_LOOK; m++) {
            int many = mostAlike(d, m, fitting);
            if (many < fewest) {
                fewest = many;
                best = m;
            }
        }
        return best;
    }

    // ---- kinds, images

    public int rate(int kind, int d) {
        if (!isTold(d)) {
            return NO;
        }
        switch (kind) {
            case 0: return dough(d);
            case 1: return suet(d);
            case 2: return parsley(d);
            case 3: return leader(d);
            case 4: return carrot(d);
            case 5: return bay(d);
            default: return NO;
        }
    }

    public int keep(int image) {
        if (image < 0 || image > 1) {
            return BAD;
        }
        imageOf(image).copy(stew);
        imagesKept |= 1 << image;
        return stew.minute;
    }

    public int back(int image) {
        if (image < 0 || image > 1) {
            return BAD;
        }
        if ((imagesKept >> image & 1) == 0) {
            return STATE;
        }
        stew.copy(imageOf(image));
        past.known = 0;
        return stew.minute;
    }

    public int count(int what) {
        switch (what) {
            case 0: return told.dumplings;
            case 1: return told.heat;
            case 2: return told.glue;
            case 3: return told.room;
            case 4: return seen.known;
            case 5: return reader.length;
            default: return BAD;
        }
    }

    public long trace() {
        return traced;
    }

    // ---- what the calls above share

    private boolean isTold(int d) {
        return d >= 0 && d < MOST && d < told.dumplings;
    }

    private int dryOnes() {
        return told.all() & ~stew.wetOnes();
    }

    private Stew imageOf(int image) {
        return image == 0 ? imageZero : imageOne;
    }

    private static boolean isFewer(int set, int best) {
        return best == NONE || Integer.bitCount(set) < Integer.bitCount(best);
    }

    private int fewestPots() {
        int all = told.all();
        for (int d = 0; d < MOST; d++) {
            if ((all >> d & 1) != 0 && stew.size[d] > told.room) {
                return NONE;
            }
        }
        int pots = 0;
        for (int set = 1; set < SETS && set <= all; set++) {
            pots = fewestPotsOf(set);
            potsOfSet[set] = pots;
        }
        return pots;
    }

    /** Asks potsOfSet of the smaller sets, so these have to stand there; that of none stays 0. */
    private int fewestPotsOf(int set) {
        int fewest = MOST;
        for (int first = 1; first <= set; first++) {
            if ((first & ~set) == 0 && stew.sizeOf(first) <= told.room) {
                fewest = Math.min(fewest, 1 + potsOfSet[set & ~first]);
            }
        }
        return fewest;
    }

    private int minutesTillUp(int d, int most, int heat) {
        later.copy(stew);
        later.heat = heat;
        for (int gone = 0; gone <= most; gone++) {
            if (later.depth[d] == 0) {
                return gone;
            }
            later.passMinute(told);
        }
        return NONE;
    }

    private boolean risesFirst(int d, int n, int dropped) {
        later.copy(stew);
        for (int i = 0; i < MOST; i++) {
            if ((dropped >> i & 1) != 0) {
                later.drop(i);
            }
        }
        for (int gone = 0; gone < n; gone++) {
            later.passMinute(told);
            int first = later.firstRisenNow();
            if (first != NONE) {
                return first == d;
            }
        }
        return false;
    }

    private static int raised(int base, int exponent) {
        int product = 1;
        for (int i = 0; i < exponent; i++) {
            product *= base;
        }
        return product;
    }

    /** At least 1 when one of them is; some fifty steps are plenty for any two ints. */
    private static int greatestCommon(int a, int b) {
        int greater = a;
        int rest = b;
        for (int i = 0; i < 64 && rest != 0; i++) {
            int next = greater % rest;
            greater = rest;
            rest = next;
        }
        return greater;
    }

    private long fittingWeights(int d) {
        long fitting = 0;
        for (int weight = 0; weight <= MOST_WEIGHT; weight++) {
            if (fitsWhatIsSeen(d, weight)) {
                fitting |= 1L << weight;
            }
        }
        return fitting;
    }

    private boolean fitsWhatIsSeen(int d, int weight) {
        for (int i = 0; i < Sightings.MOST_SEEN && i < seen.known; i++) {
            if (seen.one[i] == d && depthAlone(d, weight, seen.minutes[i]) != seen.depth[i]) {
                return false;
            }
        }
        return true;
    }

    private int depthAlone(int d, int weight, int minutes) {
        int depth = BOTTOM;
        int size = stew.size[d];
        for (int i = 0; i < minutes; i++) {
            size = Math.min(MOST_SIZE, size + told.swell[d]);
            depth = moved(depth, size + stew.heat - weight);
        }
        return depth;
    }

    private static int moved(int depth, int lift) {
        if (lift > 0) {
            return Math.max(0, depth - 1);
        }
        return lift < 0 ? Math.min(BOTTOM, depth + 1) : depth;
    }

    private static int least(long fitting) {
        for (int weight = 0; weight <= MOST_WEIGHT; weight++) {
            if ((fitting >> weight & 1) != 0) {
                return weight;
            }
        }
        return NONE;
    }

    private static int greatest(long fitting) {
        for (int weight = MOST_WEIGHT; weight >= 0; weight--) {
            if ((fitting >> weight & 1) != 0) {
                return weight;
            }
        }
        return NONE;
    }

    private int mostAlike(int d, int minutes, long fitting) {
        for (int depth = 0; depth <= BOTTOM; depth++) {
            alike[depth] = 0;
        }
        int most = 0;
        for (int weight = 0; weight <= MOST_WEIGHT; weight++) {
            if ((fitting >> weight & 1) != 0) {
                most = Math.max(most, oneMoreAt(depthAlone(d, weight, minutes)));
            }
        }
        return most;
    }

    private int oneMoreAt(int depth) {
        if (depth < 0 || depth > BOTTOM) {
            return 0;
        }
        alike[depth]++;
        return alike[depth];
    }

    // ---- the bodies of the kinds

    private int dough(int d) {
        traced += 1;
        return stew.size[d];
    }

    private int suet(int d) {
        traced += 10;
        return dough(d) + told.weight[d];
    }

    private int parsley(int d) {
        traced += 100;
        return dough(d) - Integer.bitCount(stew.lump[d]);
    }

    private int leader(int d) {
        traced += 1000;
        return 2 * suet(d);
    }

    private int carrot(int d) {
        traced += 10000;
        return parsley(d) + d;
    }

    private int bay(int d) {
        traced += 100000;
        return dough(d) + stew.heat;
    }

    /** What a text tells. */
    private static final class Recipe {
        private int dumplings;
        private int heat;
        private int glue;
        private int room;
        private final int[] weight = new int[MOST];
        private final int[] size = new int[MOST];
        private final int[] swell = new int[MOST];
        private final int[] seats = new int[MOST];

        private void setAsAtFirst() {
            dumplings = 0;
            heat = 3;
            glue = 1;
            room = 20;
        }

        private void copy(Recipe other) {
            dumplings = other.dumplings;
            heat = other.heat;
            glue = other.glue;
            room = other.room;
            System.arraycopy(other.weight, 0, weight, 0, MOST);
            System.arraycopy(other.size, 0, size, 0, MOST);
            System.arraycopy(other.swell, 0, swell, 0, MOST);
            System.arraycopy(other.seats, 0, seats, 0, MOST);
        }

        /** WEIGHT, SIZE, SWELL and SEATS are the numbers 0 to 3. */
        private void addDumpling(int[] numbers) {
            if (dumplings < 0 || dumplings >= MOST || numbers.length < 4) {
                return;
            }
            weight[dumplings] = numbers[0];
            size[dumplings] = numbers[1];
            swell[dumplings] = numbers[2];
            seats[dumplings] = numbers[3];
            dumplings++;
        }

        private int all() {
            return (1 << dumplings) - 1;
        }

        private int seatsOf(int set) {
            int sum = 0;
            for (int d = 0; d < MOST; d++) {
                if ((set >> d & 1) != 0) {
                    sum += seats[d];
                }
            }
            return sum;
        }
    }

    /** Things as they are at a minute. */
    private static final class Stew {
        private int minute;
        private int heat;
        private final int[] depth = new int[MOST];
        private final int[] size = new int[MOST];
        private final int[] lump = new int[MOST];
        private final int[] risen = new int[MOST];

        private void begin(Recipe recipe) {
            minute = 0;
            heat = recipe.heat;
            for (int d = 0; d < MOST; d++) {
                depth[d] = NONE;
                size[d] = recipe.size[d];
                lump[d] = 1 << d;
                risen[d] = NONE;
            }
        }

        private void copy(Stew other) {
            minute = other.minute;
            heat = other.heat;
            System.arraycopy(other.depth, 0, depth, 0, MOST);
            System.arraycopy(other.size, 0, size, 0, MOST);
            System.arraycopy(other.lump, 0, lump, 0, MOST);
            System.arraycopy(other.risen, 0, risen, 0, MOST);
        }

        private boolean isDry(int d) {
            return depth[d] == NONE;
        }

        private boolean hasRisen(int d) {
            return risen[d] != NONE;
        }

        private int wetOnes() {
            int set = 0;
            for (int d = 0; d < MOST; d++) {
                if (!isDry(d)) {
                    set |= 1 << d;
                }
            }
            return set;
        }

        private int upOnes() {
            int set = 0;
            for (int d = 0; d < MOST; d++) {
                if (depth[d] == 0) {
                    set |= 1 << d;
                }
            }
            return set;
        }

        private int risenOnes() {
            int set = 0;
            for (int d = 0; d < MOST; d++) {
                if (hasRisen(d)) {
                    set |= 1 << d;
                }
            }
            return set;
        }

        private int risenAheadOf(int d) {
            int many = 0;
            for (int e = 0; e < MOST; e++) {
                boolean earlier = risen[e] < risen[d] || risen[e] == risen[d] && e < d;
                if (hasRisen(e) && earlier) {
                    many++;
                }
            }
            return many;
        }

        private int firstRisenNow() {
            for (int d = 0; d < MOST; d++) {
                if (risen[d] == minute) {
                    return d;
                }
            }
            return NONE;
        }

        private int sizeOf(int set) {
            int sum = 0;
            for (int d = 0; d < MOST; d++) {
                if ((set >> d & 1) != 0) {
                    sum += size[d];
                }
            }
            return sum;
        }

        private void drop(int d) {
            depth[d] = BOTTOM;
        }

        private void skewer(int d) {
            int together = lump[d];
            for (int e = 0; e < MOST; e++) {
                if ((together >> e & 1) != 0) {
                    lump[e] = 1 << e;
                }
            }
            size[d] = Math.max(1, size[d] / 2);
        }

        private void dip(int d) {
            for (int e = 0; e < MOST; e++) {
                lump[e] &= ~(1 << d);
            }
            lump[d] = 1 << d;
            depth[d] = NONE;
        }

        private void passMinute(Recipe recipe) {
            minute++;
            swell(recipe);
            moveLumps(recipe);
            stick(recipe.glue);
            for (int d = 0; d < MOST; d++) {
                if (depth[d] == 0 && !hasRisen(d)) {
                    risen[d] = minute;
                }
            }
        }

        private void swell(Recipe recipe) {
            for (int d = 0; d < MOST; d++) {
                if (!isDry(d)) {
                    size[d] = Math.min(MOST_SIZE, size[d] + recipe.swell[d]);
                }
            }
        }

        /** All of a lump are at one depth and have one lift, so each may go for itself. */
        private void moveLumps(Recipe recipe) {
            for (int d = 0; d < MOST; d++) {
                if (!isDry(d)) {
                    depth[d] = moved(depth[d], liftOf(lump[d], recipe));
                }
            }
        }

        private int liftOf(int set, Recipe recipe) {
            int lift = 0;
            for (int d = 0; d < MOST; d++) {
                if ((set >> d & 1) != 0) {
                    lift += size[d] + heat - recipe.weight[d];
                }
            }
            return lift;
        }

        private void stick(int glue) {
            for (int d = 0; d < MOST; d++) {
                for (int e = d + 1; e < MOST; e++) {
                    if (canStick(d, e, glue)) {
                        join(lump[d] | lump[e]);
                    }
                }
            }
        }

        private boolean canStick(int d, int e, int glue) {
            boolean between = depth[d] >= 1 && depth[d] < BOTTOM;
            return between && depth[e] == depth[d] && (lump[d] >> e & 1) == 0
                    && Math.abs(size[d] - size[e]) <= glue;
        }

        private void join(int set) {
            for (int d = 0; d < MOST; d++) {
                if ((set >> d & 1) != 0) {
                    lump[d] = set;
                }
            }
        }
    }

    /** The stews ahead of the latest things done, in a ring. */
    private static final class Past {
        private static final int MOST_KNOWN = 10;

        private final Stew[] ring = new Stew[MOST_KNOWN];
        private int next;
        private int known;

        private Past() {
            for (int i = 0; i < MOST_KNOWN; i++) {
                ring[i] = new Stew();
            }
        }

        private void remember(Stew stew) {
            copyInto(place(), stew);
            next = next + 1 < MOST_KNOWN ? next + 1 : 0;
            known = Math.min(MOST_KNOWN, known + 1);
        }

        private void recall(Stew stew) {
            next = next > 0 ? next - 1 : MOST_KNOWN - 1;
            known = Math.max(0, known - 1);
            copyInto(stew, place());
        }

        private Stew place() {
            return next >= 0 && next < MOST_KNOWN ? ring[next] : null;
        }

        private static void copyInto(Stew to, Stew from) {
            if (to != null && from != null) {
                to.copy(from);
            }
        }
    }

    /** How deep one of unknown weight would be when. */
    private static final class Sightings {
        private static final int MOST_SEEN = 6;

        private final int[] one = new int[MOST_SEEN];
        private final int[] minutes = new int[MOST_SEEN];
        private final int[] depth = new int[MOST_SEEN];
        private int known;

        private boolean add(int d, int m, int v) {
            if (known < 0 || known >= MOST_SEEN) {
                return false;
            }
            one[known] = d;
            minutes[known] = m;
            depth[known] = v;
            known++;
            return true;
        }
    }

    /** The text, and how it is read: a token at a time. */
    private static final class Reader {
        private static final int LETTERS = 120;
        private static final int END = 0;
        private static final int NUMBER = 1;
        private static final int WRONG = 2;
        private static final int FAULT = -10;
        private static final int MOST_NUMBERS = 4;

        private final int[] letters = new int[LETTERS];
        private final int[] numbers = new int[MOST_NUMBERS];
        private int length;
        private int place;
        private int start;
        private int token;
        private int value;
        private boolean heatIsTold;
        private boolean glueIsTold;
        private boolean roomIsTold;

        private boolean add(int letter) {
            if (length < 0 || length >= LETTERS) {
                return false;
            }
            letters[length] = letter;
            length++;
            return true;
        }

        /** How many items, or FAULT less the place of the fault. */
        private int readInto(Recipe recipe) {
            recipe.setAsAtFirst();
            heatIsTold = false;
            glueIsTold = false;
            roomIsTold = false;
            place = 0;
            int items = 0;
            advance();
            for (int i = 0; i < LETTERS && token != END; i++) {
                if (!readItem(recipe)) {
                    return FAULT - start;
                }
                items++;
                advance();
            }
            return items;
        }

        /** If it answers false, the token at start is the one that can't stand there. */
        private boolean readItem(Recipe recipe) {
            int sign = token;
            if (!mayBegin(sign, recipe)) {
                return false;
            }
            int many = sign == 'd' ? MOST_NUMBERS : 1;
            for (int i = 0; i < many; i++) {
                advance();
                if (token != NUMBER || value < leastOf(sign, i) || value > greatestOf(sign, i)) {
                    return false;
                }
                numbers[i] = value;
            }
            advance();
            if (token != ';') {
                return false;
            }
            tell(sign, recipe);
            return true;
        }

        private boolean mayBegin(int sign, Recipe recipe) {
            switch (sign) {
                case 'd': return recipe.dumplings < MOST;
                case 'h': return !heatIsTold;
                case 'g': return !glueIsTold;
                case 'r': return !roomIsTold;
                default: return false;
            }
        }

        private static int leastOf(int sign, int i) {
            if (sign == 'r') {
                return LEAST_ROOM;
            }
            return sign == 'd' && i == 1 ? 1 : 0;
        }

        private static int greatestOf(int sign, int i) {
            if (sign == 'r') {
                return MOST_ROOM;
            }
            if (sign == 'd' && i == 0) {
                return MOST_WEIGHT;
            }
            return sign == 'd' && i == 2 ? MOST_SWELL : 9;
        }

        private void tell(int sign, Recipe recipe) {
            if (sign == 'd') {
                recipe.addDumpling(numbers);
            } else if (sign == 'h') {
                recipe.heat = numbers[0];
                heatIsTold = true;
            } else if (sign == 'g') {
                recipe.glue = numbers[0];
                glueIsTold = true;
            } else {
                recipe.room = numbers[0];
                roomIsTold = true;
            }
        }

        private void advance() {
            for (int i = 0; i < LETTERS && letterAt(place) == ' '; i++) {
                place++;
            }
            start = place;
            int letter = letterAt(place);
            if (place >= length) {
                token = END;
            } else if (isDigit(letter)) {
                takeDigits();
            } else {
                place++;
                token = isSign(letter) ? letter : WRONG;
            }
        }

        private void takeDigits() {
            value = 0;
            for (int i = 0; i < LETTERS && isDigit(letterAt(place)); i++) {
                value = Math.min(100, 10 * value + letterAt(place) - '0');
                place++;
            }
            boolean zeroAhead = letterAt(start) == '0' && place - start > 1;
            token = value > 99 || zeroAhead ? WRONG : NUMBER;
        }

        private int letterAt(int at) {
            return at >= 0 && at < LETTERS && at < length ? letters[at] : END;
        }

        private static boolean isDigit(int letter) {
            return letter >= '0' && letter <= '9';
        }

        private static boolean isSign(int letter) {
            return letter == 'd' || letter == 'h' || letter == 'g' || letter == 'r' || letter == ';';
        }
    }
}
