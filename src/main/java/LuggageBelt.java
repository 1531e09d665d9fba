import java.util.Arrays;

/** A luggage belt that goes round, as ../shared/DOC.md tells it; README.md says how to use it. */
public final class LuggageBelt {
    public static final int NONE = -1000000, BAD = -1000001, STATE = -1000002, FULL = -1000003;

    private static final int FINDINGS = -1000010, FAULTS = -1000100;
    private static final int NULL = 1, PLACE = 2, KIND = 3, SIZE = 4, STORE = 5;
    private static final int MOST_TRAVELLERS = 6, MOST_PLACES = 12, COLOUR_COUNT = 4, LAST_KIND = 5;
    private static final int MOST_FORETOLD = 60, MOST_PLANNED = 40, MOST_TICK = 999, IMAGE_COUNT = 2;

    private final Rows rows = new Rows();
    private final Tape tape = new Tape();
    private final Hall now = new Hall();
    private final Hall trial = new Hall();
    private final Acts acts = new Acts();
    private final Foresight foresight = new Foresight(now, trial);
    private final OrderSearch orders = new OrderSearch(trial);
    private final Asks asks = new Asks(now);
    private final int[] images = new int[IMAGE_COUNT * Hall.CELLS];
    private int imagesKept;
    private int latestFault;
    private int latestFinding;

    public LuggageBelt() {
    }

    // ---- rows

    public int row(int row, int lane, int n) {
        if (!rows.isNumber(row) || lane < 0 || lane >= Rows.LANES || n > Rows.MOST_ITEMS) {
            return BAD;
        }
        if (n < 0) {
            return found(SIZE);
        }
        rows.lay(row, lane, n);
        return fine(n);
    }

    public int set(int row, int i, int v) {
        if (!rows.isNumber(row)) {
            return BAD;
        }
        if (rows.isMissing(row)) {
            return found(NULL);
        }
        if (!rows.reaches(row, i, 1)) {
            return found(PLACE);
        }
        return fine(rows.put(row, i, v));
    }

    public int copy(int a, int i, int b, int j, int n) {
        if (!rows.isNumber(a) || !rows.isNumber(b)) {
            return BAD;
        }
        if (rows.isMissing(a) || rows.isMissing(b)) {
            return found(NULL);
        }
        if (rows.laneOf(a) != rows.laneOf(b)) {
            return found(STORE);
        }
        if (!rows.reaches(a, i, n) || !rows.reaches(b, j, n)) {
            return found(PLACE);
        }
        rows.carry(a, i, b, j, n);
        return fine(n);
    }

    public int drop(int row) {
        if (!rows.isNumber(row)) {
            return BAD;
        }
        if (rows.isMissing(row)) {
            return found(NULL);
        }
        return fine(rows.remove(row));
    }

    private int found(int finding) {
        latestFinding = finding;
        return FINDINGS - finding;
    }

    private int fine(int answer) {
        latestFinding = 0;
        return answer;
    }

    // ---- what is told

    public int feed(int letter) {
        if (letter < 0 || letter > 255) {
            return BAD;
        }
        if (tape.isFull()) {
            return FULL;
        }
        return tape.add(letter);
    }

    public int hall() {
        int fault = tape.readInto(trial);
        tape.clear();
        if (fault != 0) {
            latestFault = fault;
            return FAULTS - tape.faultPlace();
        }
        now.become(trial);
        acts.clear();
        return now.travellers;
    }

    public int fault() {
        return latestFault;
    }

    public int undo() {
        return acts.undoIn(now) ? acts.kept() : STATE;
    }

    // ---- what is done

    public int ticks(int n) {
        if (noHall()) {
            return STATE;
        }
        if (n < 1 || n > Acts.MOST) {
            return BAD;
        }
        if (now.tick + n > MOST_TICK) {
            return FULL;
        }
        for (int i = 0; i < n; i++) {
            acts.keep(now);
            now.tickOnce();
        }
        return now.setOf(Hall.GONE);
    }

    public int move(int traveller, int place) {
        if (!now.has(traveller) || !now.hasPlace(place)) {
            return BAD;
        }
        int stood = now.stands[traveller];
        if (!now.waits(traveller) || stood == place) {
            return STATE;
        }
        acts.keep(now);
        now.stands[traveller] = place;
        return stood;
    }

    public int paint(int bag, int colour) {
        if (!now.has(bag) || colour < 0 || colour >= COLOUR_COUNT) {
            return BAD;
        }
        int was = now.paints[bag];
        acts.keep(now);
        now.paints[bag] = colour;
        return was;
    }

    public int back(int traveller) {
        if (!now.has(traveller)) {
            return BAD;
        }
        if (now.waits(traveller)) {
            return STATE;
        }
        int had = now.took[traveller];
        acts.keep(now);
        now.comeBack(traveller);
        return had;
    }

    public int turn() {
        if (noHall()) {
            return STATE;
        }
        acts.keep(now);
        now.turnBy(1);
        return Integer.bitCount(now.setOf(Hall.BAGS_ON_BELT));
    }

    public int traveller(int traveller, int what) {
        if (!now.has(traveller)) {
            return BAD;
        }
        switch (what) {
            case 0: return now.stands[traveller];
            case 1: return now.waits(traveller) ? 1 : 0;
            case 2: return now.took[traveller];
            case 3: return now.saw[traveller];
            case 4: return now.isWrong(traveller) ? 1 : 0;
            case 5: return now.isRobbed(traveller) ? 1 : 0;
            default: return BAD;
        }
    }

    public int bag(int bag, int what) {
        if (!now.has(bag)) {
            return BAD;
        }
        switch (what) {
            case 0: return now.paints[bag];
            case 1: return now.whereIs(bag);
            default: return BAD;
        }
    }

    public int stand(int what) {
        if (noHall()) {
            return STATE;
        }
        if (what < 0 || what > Hall.ROBBED) {
            return BAD;
        }
        return what == 0 ? now.places : now.setOf(what);
    }

    public int place(int place) {
        return now.hasPlace(place) ? now.bagAt(place) : BAD;
    }

    private boolean noHall() {
        return now.travellers == 0;
    }

    // ---- foretold

    public int ahead(int bag, int n) {
        if (!now.has(bag) || n < 0 || n > MOST_FORETOLD) {
            return BAD;
        }
        return foresight.behind(n).whereIs(bag);
    }

    public int with(int traveller, int n, int what) {
        if (!now.has(traveller) || n < 0 || n > MOST_FORETOLD || !isChoice(what, 2)) {
            return BAD;
        }
        Hall then = foresight.behind(n);
        return what == 0 ? then.took[traveller] : then.saw[traveller];
    }

    public int all(int n, int what) {
        if (noHall()) {
            return STATE;
        }
        if (n < 0 || n > MOST_FORETOLD || !isChoice(what, 3)) {
            return BAD;
        }
        Hall then = foresight.behind(n);
        return then.setOf(what == 0 ? Hall.GONE : what == 1 ? Hall.WRONG : Hall.ROBBED);
    }

    public int when(int traveller) {
        return now.has(traveller) ? foresight.whenGone(traveller) : BAD;
    }

    public int empty() {
        return noHall() ? STATE : foresight.whenEmpty();
    }

    public int best(int traveller, int n, int what) {
        if (!now.has(traveller) || n < 1 || n > MOST_FORETOLD || !isChoice(what, 2)) {
            return BAD;
        }
        if (!now.waits(traveller)) {
            return STATE;
        }
        return foresight.bestStand(traveller, n, what);
    }

    public int order(int n, int k) {
        if (noHall()) {
            return STATE;
        }
        if (n < 1 || n > MOST_PLANNED || k < -1) {
            return BAD;
        }
        if (k >= now.travellers) {
            return NONE;
        }
        orders.search(now, n);
        return k < 0 ? orders.mostOwn() : orders.bagInOrder(now, k);
    }

    public int marks(int n, int what) {
        if (noHall()) {
            return STATE;
        }
        if (n < 1 || n > MOST_PLANNED || !isChoice(what, 2)) {
            return BAD;
        }
        int marked = foresight.fewestMarks(n);
        return what == 0 ? Integer.bitCount(marked) : marked;
    }

    public int sets(int v, int what) {
        if (noHall()) {
            return STATE;
        }
        if (v < 0 || v > Hall.MOST_SEEN || !isChoice(what, 3)) {
            return BAD;
        }
        return foresight.setsThatSaw(v, what);
    }

    public int share(int traveller, int n) {
        if (!now.has(traveller) || n < 0 || n > 999) {
            return BAD;
        }
        return now.shareOf(traveller, n);
    }

    public int byTurns(int n, int m) {
        if (noHall()) {
            return STATE;
        }
        if (n < 0 || n > Foresight.MOST_TURNS || m < 1 || m > 20) {
            return BAD;
        }
        return foresight.outcomeOfTurns(n, m);
    }

    public int who(int traveller, int which, int bag, int row, int i, int n) {
        if (!now.has(traveller) || !isChoice(which, 2) || !now.has(bag) || !isTold(row, n)) {
            return BAD;
        }
        int finding = findingOfItems(row, i, n);
        if (finding != 0) {
            return found(finding);
        }
        int[] told = rows.itemsOf(row);
        if (which == 0) {
            return fine(foresight.kindsThatFit(traveller, bag, told, i, n));
        }
        return fine(foresight.standsThatFit(traveller, bag, told, i, n));
    }

    public int colours(int bag, int row, int i, int n) {
        if (!now.has(bag) || !isTold(row, n)) {
            return BAD;
        }
        int finding = findingOfItems(row, i, n);
        if (finding != 0) {
            return found(finding);
        }
        return fine(foresight.coloursThatFit(bag, rows.itemsOf(row), i, n));
    }

    public long sleep(int bag, int n, int p, int what) {
        if (!now.has(bag) || n < 0 || n > MOST_FORETOLD || p < 0 || p > 10 || !isChoice(what, 2)) {
            return BAD;
        }
        return foresight.likelyOnBelt(bag, n, p, what);
    }

    public int drawn(int n, int seed, int what) {
        if (noHall()) {
            return STATE;
        }
        if (n < 0 || n > MOST_FORETOLD || seed < 1 || seed > 999999 || !isChoice(what, 2)) {
            return BAD;
        }
        return foresight.goneInDays(n, seed, what);
    }

    public int image(int k) {
        if (!isChoice(k, IMAGE_COUNT)) {
            return BAD;
        }
        if (noHall()) {
            return STATE;
        }
        now.saveTo(images, k * Hall.CELLS);
        imagesKept |= 1 << k;
        return 1;
    }

    public int restore(int k) {
        if (!isChoice(k, IMAGE_COUNT)) {
            return BAD;
        }
        if ((imagesKept >> k & 1) == 0) {
            return STATE;
        }
        now.loadFrom(images, k * Hall.CELLS);
        acts.clear();
        return 1;
    }

    private static boolean isChoice(int what, int count) {
        return what >= 0 && what < count;
    }

    private boolean isTold(int row, int n) {
        return rows.isNumber(row) && n >= 1 && n <= 12;
    }

    private int findingOfItems(int row, int i, int n) {
        if (rows.isMissing(row)) {
            return NULL;
        }
        return rows.reaches(row, i, n) ? 0 : PLACE;
    }

    // ---- asked

    public int kind(int one) {
        return now.has(one) ? now.kinds[one] : BAD;
    }

    public int as(int one, int kind) {
        if (!now.has(one) || kind < 0 || kind > LAST_KIND) {
            return BAD;
        }
        return Asks.isOfKind(now.kinds[one], kind) ? fine(one) : found(KIND);
    }

    public int ask(int one, int what) {
        if (!now.has(one) || !isChoice(what, 2)) {
            return BAD;
        }
        return asks.begin(one, what);
    }

    public int trace(int i) {
        return asks.bodyInTrace(i);
    }

    public int count(int what) {
        switch (what) {
            case 0: return rows.howMany();
            case 1: return now.travellers;
            case 2: return now.places;
            case 3: return now.tick;
            case 4: return Integer.bitCount(now.setOf(Hall.GONE));
            case 5: return now.seenTogether();
            case 6: return acts.kept();
            case 7: return tape.size();
            default: return BAD;
        }
    }

    public int status() {
        return latestFinding;
    }

    /** The eight rows; every row's items lie in ints of their own, so that no call makes an array. */
    private static final class Rows {
        static final int LANES = 3, MOST_ITEMS = 40;
        private static final int COUNT = 8, MISSING = -1, BYTES = 0, SHORTS = 1;

        private final int[] lanes = new int[COUNT];
        private final int[] sizes = new int[COUNT];
        private final int[][] items = new int[COUNT][MOST_ITEMS];

        Rows() {
            Arrays.fill(lanes, MISSING);
        }

        boolean isNumber(int row) {
            return row >= 0 && row < COUNT;
        }

        boolean isMissing(int row) {
            return !isNumber(row) || lanes[row] == MISSING;
        }

        int laneOf(int row) {
            return isNumber(row) ? lanes[row] : MISSING;
        }

        int[] itemsOf(int row) {
            return items[isNumber(row) ? row : 0];
        }

        /** Whether n items from i on are there; the difference can't wrap, as a sum could. */
        boolean reaches(int row, int i, int n) {
            return !isMissing(row) && i >= 0 && n >= 0 && i <= sizes[row] && n <= sizes[row] - i;
        }

        int howMany() {
            int there = 0;
            for (int row = 0; row < COUNT; row++) {
                there += isMissing(row) ? 0 : 1;
            }
            return there;
        }

        void lay(int row, int lane, int n) {
            if (isNumber(row) && n >= 0 && n <= MOST_ITEMS) {
                lanes[row] = lane;
                sizes[row] = n;
                Arrays.fill(items[row], 0);
            }
        }

        int put(int row, int i, int v) {
            if (!reaches(row, i, 1)) {
                return 0;
            }
            items[row][i] = cutTo(lanes[row], v);
            return items[row][i];
        }

        private static int cutTo(int lane, int v) {
            if (lane == BYTES) {
                return (byte) v;
            }
            return lane == SHORTS ? (short) v : v;
        }

        void carry(int a, int i, int b, int j, int n) {
            if (reaches(a, i, n) && reaches(b, j, n)) {
                System.arraycopy(items[a], i, items[b], j, n);
            }
        }

        int remove(int row) {
            if (isMissing(row)) {
                return 0;
            }
            lanes[row] = MISSING;
            return sizes[row];
        }
    }

    /** The tape, and the reader of what is on it, which stops at the first token that has a fault. */
    private static final class Tape {
        private static final int MOST = 110;
        private static final int END = 0, NUMBER = 1, NO_TOKEN = 2;
        private static final int MISPLACED = 1, NOT_AS_TOLD = 2, TOO_MANY = 3;
        private static final String SORTS = "cshld";

        private final int[] bytes = new int[MOST];
        private int length;
        private int token;
        private int tokenStart;
        private int tokenEnd;
        private int value;

        int size() {
            return length;
        }

        boolean isFull() {
            return length >= MOST;
        }

        int add(int letter) {
            if (!isFull()) {
                bytes[length] = letter;
                length++;
            }
            return length;
        }

        void clear() {
            length = 0;
        }

        /** Where the token begins at which the reader stopped. */
        int faultPlace() {
            return tokenStart;
        }

        /** Reads a hall; answers the number of its fault, 0 if it has none. */
        int readInto(Hall draft) {
            tokenEnd = 0;
            nextToken();
            int fault = readLaw(draft);
            for (int k = 0; k <= MOST_TRAVELLERS && fault == 0; k++) {
                if (k > 0 && token == END) {
                    return 0;
                }
                fault = readTraveller(draft);
            }
            return fault;
        }

        private int readLaw(Hall draft) {
            int fault = readSign('b');
            if (fault == 0) {
                fault = readNumber(4, MOST_PLACES);
            }
            if (fault == 0) {
                draft.begin(value);
                fault = readSign(';');
            }
            return fault;
        }

        private int readTraveller(Hall draft) {
            int sort = token > NO_TOKEN ? SORTS.indexOf((char) token) : -1;
            if (sort < 0) {
                return MISPLACED;
            }
            if (draft.travellers >= MOST_TRAVELLERS) {
                return TOO_MANY;
            }
            nextToken();
            int fault = readNumber(0, draft.places - 1);
            int stand = value;
            if (fault == 0) {
                fault = readSign(',');
            }
            if (fault == 0) {
                fault = readNumber(0, COLOUR_COUNT - 1);
            }
            int colour = value;
            if (fault == 0) {
                fault = readSign(';');
            }
            if (fault == 0) {
                draft.join(sort + 1, stand, colour);
            }
            return fault;
        }

        private int readSign(int sign) {
            if (token != sign) {
                return MISPLACED;
            }
            nextToken();
            return 0;
        }

        private int readNumber(int least, int most) {
            if (token != NUMBER) {
                return MISPLACED;
            }
            int number = value;
            if (number < least || number > most) {
                return NOT_AS_TOLD;
            }
            nextToken();
            value = number;
            return 0;
        }

        private void nextToken() {
            tokenStart = tokenEnd;
            int first = byteAt(tokenStart);
            if (tokenStart >= length) {
                token = END;
            } else if (isFigure(first)) {
                readFigures();
            } else {
                boolean isOne = first >= 'a' && first <= 'z' || first == ',' || first == ';';
                token = isOne ? first : NO_TOKEN;
                tokenEnd = tokenStart + 1;
            }
        }

        private void readFigures() {
            int end = tokenStart;
            value = 0;
            while (end < tokenStart + 3 && isFigure(byteAt(end))) {
                value = value * 10 + byteAt(end) - '0';
                end++;
            }
            token = end - tokenStart > 2 ? NO_TOKEN : NUMBER;
            tokenEnd = end;
        }

        private int byteAt(int i) {
            return i >= 0 && i < length ? bytes[i] : -1;
        }

        private static boolean isFigure(int letter) {
            return letter >= '0' && letter <= '9';
        }
    }

    /**
     * Who stands where, and which bag is where. A bag lies on one slat of the belt as long as it is on it,
     * and only the shift of the slats against the places changes: so a tick need not touch every bag.
     */
    private static final class Hall {
        static final int CELLS = 4 + 6 * MOST_TRAVELLERS, MOST_SEEN = 99;
        static final int CALM = 1, SHY = 2, HASTY = 3, SLOW = 4, DOZY = 5;
        static final int BAGS_IN_CART = 1, BAGS_ON_BELT = 2, BAGS_TAKEN = 3;
        static final int WAITING = 4, WRONG = 5, ROBBED = 6, GONE = 7;
        private static final int IN_CART = 20, TAKEN = 30;

        int places;
        int travellers;
        int tick;
        int asleep;
        private int shift;
        private int inCart;
        final int[] kinds = new int[MOST_TRAVELLERS];
        final int[] stands = new int[MOST_TRAVELLERS];
        final int[] saw = new int[MOST_TRAVELLERS];
        final int[] took = new int[MOST_TRAVELLERS];
        final int[] paints = new int[MOST_TRAVELLERS];
        private final int[] spots = new int[MOST_TRAVELLERS];
        private final int[] slats = new int[MOST_PLACES];

        void begin(int placeCount) {
            places = placeCount;
            travellers = 0;
            tick = 0;
            asleep = 0;
            shift = 0;
            inCart = 0;
            Arrays.fill(slats, NONE);
        }

        void join(int kindOfOne, int standOfOne, int paintOfOne) {
            if (travellers < MOST_TRAVELLERS) {
                kinds[travellers] = kindOfOne;
                stands[travellers] = standOfOne;
                saw[travellers] = 0;
                took[travellers] = NONE;
                paints[travellers] = paintOfOne;
                spots[travellers] = IN_CART;
                inCart++;
                travellers++;
            }
        }

        void become(Hall other) {
            places = other.places;
            travellers = other.travellers;
            tick = other.tick;
            asleep = other.asleep;
            shift = other.shift;
            inCart = other.inCart;
            System.arraycopy(other.kinds, 0, kinds, 0, MOST_TRAVELLERS);
            System.arraycopy(other.stands, 0, stands, 0, MOST_TRAVELLERS);
            System.arraycopy(other.saw, 0, saw, 0, MOST_TRAVELLERS);
            System.arraycopy(other.took, 0, took, 0, MOST_TRAVELLERS);
            System.arraycopy(other.paints, 0, paints, 0, MOST_TRAVELLERS);
            System.arraycopy(other.spots, 0, spots, 0, MOST_TRAVELLERS);
            System.arraycopy(other.slats, 0, slats, 0, MOST_PLACES);
        }

        /** Nobody is asleep in a hall that is kept, and what lies on slats or in the cart follows from the spots. */
        void saveTo(int[] store, int at) {
            if (at < 0 || at > store.length - CELLS) {
                return;
            }
            store[at] = places;
            store[at + 1] = travellers;
            store[at + 2] = tick;
            store[at + 3] = shift;
            int from = at + 4;
            System.arraycopy(kinds, 0, store, from, MOST_TRAVELLERS);
            System.arraycopy(stands, 0, store, from + MOST_TRAVELLERS, MOST_TRAVELLERS);
            System.arraycopy(saw, 0, store, from + 2 * MOST_TRAVELLERS, MOST_TRAVELLERS);
            System.arraycopy(took, 0, store, from + 3 * MOST_TRAVELLERS, MOST_TRAVELLERS);
            System.arraycopy(paints, 0, store, from + 4 * MOST_TRAVELLERS, MOST_TRAVELLERS);
            System.arraycopy(spots, 0, store, from + 5 * MOST_TRAVELLERS, MOST_TRAVELLERS);
        }

        void loadFrom(int[] store, int at) {
            if (at < 0 || at > store.length - CELLS) {
                return;
            }
            places = store[at];
            travellers = store[at + 1];
            tick = store[at + 2];
            shift = store[at + 3];
            int from = at + 4;
            System.arraycopy(store, from, kinds, 0, MOST_TRAVELLERS);
            System.arraycopy(store, from + MOST_TRAVELLERS, stands, 0, MOST_TRAVELLERS);
            System.arraycopy(store, from + 2 * MOST_TRAVELLERS, saw, 0, MOST_TRAVELLERS);
            System.arraycopy(store, from + 3 * MOST_TRAVELLERS, took, 0, MOST_TRAVELLERS);
            System.arraycopy(store, from + 4 * MOST_TRAVELLERS, paints, 0, MOST_TRAVELLERS);
            System.arraycopy(store, from + 5 * MOST_TRAVELLERS, spots, 0, MOST_TRAVELLERS);
            followSpots();
        }

        private void followSpots() {
            inCart = 0;
            Arrays.fill(slats, NONE);
            for (int bag = 0; bag < travellers; bag++) {
                if (isOnBelt(bag)) {
                    slats[spots[bag]] = bag;
                } else if (isInCart(bag)) {
                    inCart++;
                }
            }
        }

        // -- what is there

        /** Travellers and bags bear the same numbers. */
        boolean has(int one) {
            return one >= 0 && one < travellers;
        }

        boolean hasPlace(int place) {
            return place >= 0 && place < places;
        }

        boolean waits(int one) {
            return took[one] == NONE;
        }

        boolean hasOwn(int one) {
            return took[one] == one;
        }

        boolean isWrong(int one) {
            return !waits(one) && !hasOwn(one);
        }

        boolean isRobbed(int one) {
            return waits(one) && isTaken(one);
        }

        boolean isTaken(int bag) {
            return spots[bag] >= TAKEN;
        }

        boolean isInCart(int bag) {
            return spots[bag] == IN_CART;
        }

        boolean isOnBelt(int bag) {
            return spots[bag] >= 0 && spots[bag] < MOST_PLACES;
        }

        int whereIs(int bag) {
            if (!isOnBelt(bag)) {
                return spots[bag];
            }
            int place = spots[bag] + shift;
            return place < places ? place : place - places;
        }

        int bagAt(int place) {
            int slat = place < shift ? place - shift + places : place - shift;
            return slat >= 0 && slat < MOST_PLACES ? slats[slat] : NONE;
        }

        int setOf(int group) {
            int set = 0;
            for (int one = 0; one < travellers; one++) {
                set |= isIn(group, one) ? 1 << one : 0;
            }
            return set;
        }

        private boolean isIn(int group, int one) {
            switch (group) {
                case BAGS_IN_CART: return isInCart(one);
                case BAGS_ON_BELT: return isOnBelt(one);
                case BAGS_TAKEN: return isTaken(one);
                case WAITING: return waits(one);
                case WRONG: return isWrong(one);
                case ROBBED: return isRobbed(one);
                case GONE: return !waits(one);
                default: return false;
            }
        }

        int seenTogether() {
            int all = 0;
            for (int one = 0; one < travellers; one++) {
                all += saw[one];
            }
            return all;
        }

        int shareOf(int one, int n) {
            int all = seenTogether();
            if (all == 0 || saw[one] == 0) {
                return 0;
            }
            int over = n;
            int before = 0;
            for (int other = 0; other < travellers; other++) {
                over -= n * saw[other] / all;
                before += other < one && saw[other] > 0 ? 1 : 0;
            }
            return n * saw[one] / all + (before < over ? 1 : 0);
        }

        // -- what is done

        void tickOnce() {
            turnBy(1);
            if (isFallDue()) {
                dropFirst();
            }
            letTake();
        }

        void turnBy(int by) {
            if (places > 0) {
                shift = Math.floorMod(shift + by, places);
            }
        }

        boolean isFallDue() {
            return inCart > 0 && bagAt(0) == NONE;
        }

        private void dropFirst() {
            for (int bag = 0; bag < travellers; bag++) {
                if (isInCart(bag)) {
                    fallDown(bag);
                    return;
                }
            }
        }

        void fallDown(int bag) {
            int slat = shift == 0 ? 0 : places - shift;
            if (slat >= 0 && slat < MOST_PLACES) {
                spots[bag] = slat;
                slats[slat] = bag;
                inCart--;
            }
        }

        /** The last part of a tick, with which it ends. */
        void letTake() {
            for (int one = 0; one < travellers; one++) {
                if (took[one] == NONE && (asleep >> one & 1) == 0) {
                    letLook(one, bagAt(stands[one]));
                }
            }
            tick++;
        }

        private void letLook(int one, int bag) {
            if (bag == one && saw[one] < MOST_SEEN) {
                saw[one]++;
            }
            if (bag != NONE && wants(one, bag)) {
                take(one, bag);
            }
        }

        private boolean wants(int one, int bag) {
            switch (kinds[one]) {
                case CALM: return bag == one;
                case SHY: return bag == one && isAlone(one);
                case HASTY: return paints[bag] == paints[one];
                case SLOW: return bag == one && saw[one] >= 2;
                case DOZY: return bag == one && saw[one] >= 3;
                default: return false;
            }
        }

        private boolean isAlone(int one) {
            for (int other = 0; other < travellers; other++) {
                int apart = stands[other] > stands[one] ? stands[other] - stands[one] : stands[one] - stands[other];
                if (other != one && took[other] == NONE && (apart <= 1 || apart == places - 1)) {
                    return false;
                }
            }
            return true;
        }

        private void take(int one, int bag) {
            if (isOnBelt(bag)) {
                slats[spots[bag]] = NONE;
                spots[bag] = TAKEN + one;
                took[one] = bag;
            }
        }

        void comeBack(int one) {
            int bag = took[one];
            if (has(bag)) {
                spots[bag] = IN_CART;
                inCart++;
                took[one] = NONE;
                saw[one] = 0;
            }
        }
    }

    /** The hall as it was ahead of each of the latest acts, in a ring. */
    private static final class Acts {
        static final int MOST = 24;

        private final int[] ring = new int[MOST * Hall.CELLS];
        private int next;
        private int kept;

        int kept() {
            return kept;
        }

        void clear() {
            kept = 0;
        }

        void keep(Hall hall) {
            hall.saveTo(ring, next * Hall.CELLS);
            next = next + 1 < MOST ? next + 1 : 0;
            kept = Math.min(kept + 1, MOST);
        }

        boolean undoIn(Hall hall) {
            if (kept == 0) {
                return false;
            }
            kept--;
            next = next > 0 ? next - 1 : MOST - 1;
            hall.loadFrom(ring, next * Hall.CELLS);
            return true;
        }
    }

    /** What is foretold, tried out in a hall of its own: the one that is now stays. */
    private static final class Foresight {
        static final int MOST_TURNS = 4;
        private static final int FIRST_MARK = 10;
        private static final long DRAW_FACTOR = 16807, DRAW_DIVISOR = 2147483647;

        private final Hall now;
        private final Hall trial;
        private final int[] outcomes = new int[MOST_TURNS + 1];

        Foresight(Hall now, Hall trial) {
            this.now = now;
            this.trial = trial;
        }

        Hall behind(int n) {
            trial.become(now);
            return goOn(n);
        }

        private Hall goOn(int n) {
            for (int i = 0; i < n; i++) {
                trial.tickOnce();
            }
            return trial;
        }

        int whenGone(int one) {
            trial.become(now);
            for (int i = 0; i <= MOST_FORETOLD; i++) {
                if (!trial.waits(one)) {
                    return i;
                }
                trial.tickOnce();
            }
            return NONE;
        }

        int whenEmpty() {
            int bags = (1 << now.travellers) - 1;
            trial.become(now);
            for (int i = 0; i <= MOST_FORETOLD; i++) {
                if (trial.setOf(Hall.BAGS_TAKEN) == bags) {
                    return i;
                }
                trial.tickOnce();
            }
            return NONE;
        }

        int bestStand(int one, int n, int what) {
            int bestPlace = NONE;
            int bestTicks = NONE;
            for (int place = 0; place < now.places; place++) {
                int most = bestTicks == NONE ? n : bestTicks - 1;
                int behind = whenGoneWithOwn(one, place, most);
                if (behind != NONE) {
                    bestPlace = place;
                    bestTicks = behind;
                }
            }
            return what == 0 ? bestPlace : bestTicks;
        }

        private int whenGoneWithOwn(int one, int place, int most) {
            trial.become(now);
            trial.stands[one] = place;
            for (int i = 1; i <= most; i++) {
                trial.tickOnce();
                if (!trial.waits(one)) {
                    return trial.isWrong(one) ? NONE : i;
                }
            }
            return NONE;
        }

        /** All bags marked let nobody be wrong, so there always is such a set. */
        int fewestMarks(int n) {
            int wrongNow = now.setOf(Hall.WRONG);
            int fewest = (1 << now.travellers) - 1;
            for (int set = 0; set < 1 << now.travellers; set++) {
                if (Integer.bitCount(set) < Integer.bitCount(fewest)) {
                    trial.become(now);
                    markEach(set);
                    fewest = (goOn(n).setOf(Hall.WRONG) & ~wrongNow) == 0 ? set : fewest;
                }
            }
            return fewest;
        }

        private void markEach(int set) {
            for (int bag = 0; bag < trial.travellers; bag++) {
                if ((set >> bag & 1) == 1) {
                    trial.paints[bag] = FIRST_MARK + bag;
                }
            }
        }

        int setsThatSaw(int v, int what) {
            int waiting = now.setOf(Hall.WAITING);
            int howMany = 0;
            int inAll = waiting;
            int inAny = 0;
            for (int set = 0; set <= waiting; set++) {
                if ((set & ~waiting) == 0 && seenBy(set) == v) {
                    howMany++;
                    inAll &= set;
                    inAny |= set;
                }
            }
            if (what == 0) {
                return howMany;
            }
            return howMany == 0 ? 0 : what == 1 ? inAll : inAny;
        }

        private int seenBy(int set) {
            int seen = 0;
            for (int one = 0; one < now.travellers; one++) {
                seen += (set >> one & 1) == 1 ? now.saw[one] : 0;
            }
            return seen;
        }

        /**
         * Only how far the belt is turned in the end counts: n choices leave n + 1 ways to be turned. From what
         * comes of each it goes back, choice by choice: of two ways side by side the one who chooses takes one.
         */
        int outcomeOfTurns(int n, int m) {
            if (n < 0 || n > MOST_TURNS) {
                return NONE;
            }
            for (int i = 0; i <= n; i++) {
                trial.become(now);
                trial.turnBy(i - n / 2);
                outcomes[i] = Integer.bitCount(goOn(m).setOf(Hall.GONE));
            }
            for (int choice = n - 1; choice >= 0; choice--) {
                boolean isTheOne = (choice & 1) == 0;
                for (int i = 0; i <= choice; i++) {
                    int great = Math.max(outcomes[i], outcomes[i + 1]);
                    int little = Math.min(outcomes[i], outcomes[i + 1]);
                    outcomes[i] = isTheOne ? great : little;
                }
            }
            return outcomes[0];
        }

        int kindsThatFit(int one, int bag, int[] told, int i, int n) {
            int fitting = 0;
            for (int kind = 1; kind <= LAST_KIND; kind++) {
                trial.become(now);
                trial.kinds[one] = kind;
                fitting |= goesAsTold(bag, told, i, n) ? 1 << kind : 0;
            }
            return fitting;
        }

        int standsThatFit(int one, int bag, int[] told, int i, int n) {
            int fitting = 0;
            for (int place = 0; place < now.places; place++) {
                trial.become(now);
                trial.stands[one] = place;
                fitting |= goesAsTold(bag, told, i, n) ? 1 << place : 0;
            }
            return fitting;
        }

        int coloursThatFit(int bag, int[] told, int i, int n) {
            int fitting = 0;
            for (int colour = 0; colour < COLOUR_COUNT; colour++) {
                trial.become(now);
                trial.paints[bag] = colour;
                fitting |= goesAsTold(bag, told, i, n) ? 1 << colour : 0;
            }
            return fitting;
        }

        private boolean goesAsTold(int bag, int[] told, int i, int n) {
            if (i < 0 || n < 0 || i > told.length - n) {
                return false;
            }
            for (int k = 0; k < n; k++) {
                trial.tickOnce();
                if (trial.whereIs(bag) != told[i + k]) {
                    return false;
                }
            }
            return true;
        }

        long likelyOnBelt(int bag, int n, int p, int what) {
            int waiting = now.setOf(Hall.WAITING);
            long cases = 0;
            long all = 0;
            for (int set = 0; set <= waiting; set++) {
                if ((set & ~waiting) == 0) {
                    long weight = power(p, Integer.bitCount(set)) * power(10 - p, Integer.bitCount(waiting - set));
                    all += weight;
                    trial.become(now);
                    trial.asleep = set;
                    cases += goOn(n).isOnBelt(bag) ? weight : 0;
                }
            }
            long common = commonDivisor(all, cases);
            return common == 0 ? NONE : (what == 0 ? cases : all) / common;
        }

        private static long power(int base, int times) {
            long product = 1;
            for (int i = 0; i < times; i++) {
                product *= base;
            }
            return product;
        }

        private static long commonDivisor(long a, long b) {
            long great = a;
            long small = b;
            for (int i = 0; i < 100 && small != 0; i++) {
                long rest = great % small;
                great = small;
                small = rest;
            }
            return great;
        }

        int goneInDays(int n, int seed, int what) {
            trial.become(now);
            long x = seed;
            int went = 0;
            int wentWrong = 0;
            for (int i = 0; i < n; i++) {
                x = x * DRAW_FACTOR % DRAW_DIVISOR;
                drawOne(x);
                int gone = trial.setOf(Hall.GONE);
                trial.tickOnce();
                went += Integer.bitCount(trial.setOf(Hall.GONE) & ~gone);
                wentWrong += Integer.bitCount(trial.setOf(Hall.WRONG) & ~gone);
            }
            return what == 0 ? went : wentWrong;
        }

        private void drawOne(long x) {
            if (trial.travellers < 1 || trial.places < 1) {
                return;
            }
            int one = (int) (x % trial.travellers);
            if (!trial.has(one)) {
                return;
            }
            if (!trial.waits(one)) {
                trial.comeBack(one);
            } else if (x % 3 == 0) {
                trial.stands[one] = (int) (x % trial.places);
            }
        }
    }

    /**
     * The search for the order of the cart. Only what falls within the ticks makes a difference, so it goes
     * from fall to fall and tries each bag there, by numbers: the first of several that are best is kept.
     */
    private static final class OrderSearch {
        private final Hall trial;
        private final int[] levels = new int[MOST_TRAVELLERS * Hall.CELLS];
        private final int[] hallNow = new int[Hall.CELLS];
        private final int[] hallSearched = new int[Hall.CELLS];
        private final int[] falls = new int[MOST_TRAVELLERS];
        private final int[] bestFalls = new int[MOST_TRAVELLERS];
        private int bestFallCount;
        private int ticksInAll;
        private int most;
        private int least;

        OrderSearch(Hall trial) {
            this.trial = trial;
        }

        int mostOwn() {
            return most;
        }

        /** The bags of one order are asked for one by one, so what was found for the same hall is kept. */
        void search(Hall now, int n) {
            now.saveTo(hallNow, 0);
            if (n == ticksInAll && isSearched()) {
                return;
            }
            System.arraycopy(hallNow, 0, hallSearched, 0, Hall.CELLS);
            ticksInAll = n;
            most = -1;
            trial.become(now);
            tryFrom(0, 0);
        }

        private boolean isSearched() {
            for (int i = 0; i < Hall.CELLS; i++) {
                if (hallNow[i] != hallSearched[i]) {
                    return false;
                }
            }
            return true;
        }

        private void tryFrom(int done, int depth) {
            for (int i = done; i < ticksInAll; i++) {
                trial.turnBy(1);
                if (trial.isFallDue()) {
                    tryEachFall(i, depth);
                    return;
                }
                trial.letTake();
            }
            weigh(depth);
        }

        private void tryEachFall(int done, int depth) {
            if (depth < 0 || depth >= MOST_TRAVELLERS) {
                return;
            }
            int cart = trial.setOf(Hall.BAGS_IN_CART);
            trial.saveTo(levels, depth * Hall.CELLS);
            for (int bag = 0; bag < trial.travellers; bag++) {
                if ((cart >> bag & 1) == 1) {
                    trial.loadFrom(levels, depth * Hall.CELLS);
                    falls[depth] = bag;
                    trial.fallDown(bag);
                    trial.letTake();
                    if (mayBeBetter()) {
                        tryFrom(done + 1, depth + 1);
                    }
                }
            }
        }

        /** What was seen never grows less, and who waits for a bag that is not taken is all one can hope for. */
        private boolean mayBeBetter() {
            int hope = 0;
            for (int one = 0; one < trial.travellers; one++) {
                hope += trial.hasOwn(one) || trial.waits(one) && !trial.isTaken(one) ? 1 : 0;
            }
            return hope > most || hope == most && trial.seenTogether() < least;
        }

        private int ownCount() {
            int own = 0;
            for (int one = 0; one < trial.travellers; one++) {
                own += trial.hasOwn(one) ? 1 : 0;
            }
            return own;
        }

        private void weigh(int fallCount) {
            int own = ownCount();
            int seen = trial.seenTogether();
            if (own > most || own == most && seen < least) {
                most = own;
                least = seen;
                bestFallCount = Math.min(fallCount, MOST_TRAVELLERS);
                System.arraycopy(falls, 0, bestFalls, 0, MOST_TRAVELLERS);
            }
        }

        /** Bags that do not fall come where the first order by numbers has them: ahead of the next that is greater. */
        int bagInOrder(Hall now, int k) {
            int fallen = 0;
            for (int i = 0; i < bestFallCount; i++) {
                fallen |= 1 << bestFalls[i];
            }
            int free = (1 << now.travellers) - 1 & ~fallen;
            int late = free & now.setOf(Hall.BAGS_IN_CART);
            int nextFall = 0;
            int bag = NONE;
            for (int i = 0; i <= k && i < now.travellers; i++) {
                boolean areFallen = nextFall >= bestFallCount;
                int first = lowest(areFallen ? free : free & ~late);
                if (areFallen || first != NONE && first < bestFalls[nextFall]) {
                    bag = first;
                    free &= ~(1 << first);
                } else {
                    bag = bestFalls[nextFall];
                    nextFall++;
                }
            }
            return bag;
        }

        private static int lowest(int set) {
            for (int bag = 0; bag < MOST_TRAVELLERS; bag++) {
                if ((set >> bag & 1) == 1) {
                    return bag;
                }
            }
            return NONE;
        }
    }

    /** The asks: which body begins for which kind, and the trace that the bodies leave. */
    private static final class Asks {
        private static final int SIZE_ASK = 0, MARK_ASK = 1;
        private static final int LONGEST_TRACE = 16, DEEPEST = 20;
        private static final int[] KIND_ABOVE = {-1, 0, 1, 1, 0, 4};
        private static final int[] SIZE_BODIES = {10, 11, 12, NONE, 13, 14};
        private static final int[] MARK_BODIES = {20, 21, 24, 22, 23, NONE};

        private final Hall now;
        private final int[] trace = new int[LONGEST_TRACE];
        private int traceLength;

        Asks(Hall now) {
            this.now = now;
        }

        static boolean isOfKind(int kindOfOne, int wanted) {
            int kind = kindOfOne;
            for (int i = 0; i <= LAST_KIND && kind != wanted; i++) {
                kind = kindAbove(kind);
            }
            return kind == wanted;
        }

        private static int kindAbove(int kind) {
            return kind >= 0 && kind < KIND_ABOVE.length ? KIND_ABOVE[kind] : -1;
        }

        int bodyInTrace(int i) {
            return i >= 0 && i < traceLength ? trace[i] : NONE;
        }

        int begin(int one, int what) {
            traceLength = 0;
            return asked(one, what, 0);
        }

        private int asked(int one, int what, int depth) {
            int[] bodies = what == SIZE_ASK ? SIZE_BODIES : MARK_BODIES;
            int kind = now.kinds[one];
            for (int i = 0; i <= LAST_KIND; i++) {
                if (kind < 0 || kind >= bodies.length) {
                    return NONE;
                }
                if (bodies[kind] != NONE) {
                    return given(one, bodies[kind], depth + 1);
                }
                kind = kindAbove(kind);
            }
            return NONE;
        }

        /** What a body gives; the order in which it asks for its parts is that of the trace. */
        private int given(int one, int body, int depth) {
            if (depth > DEEPEST) {
                return NONE;
            }
            leave(body);
            int deeper = depth + 1;
            switch (body) {
                case 10: return now.stands[one];
                case 11: return given(one, 10, deeper) + asked(one, MARK_ASK, deeper);
                case 12: return -given(one, 11, deeper);
                case 13: return given(one, 10, deeper) - 100;
                case 14: return 2 * given(one, 13, deeper);
                case 20: return one;
                case 21: return given(one, 20, deeper) + now.saw[one];
                case 22: return given(one, 21, deeper) - 1000;
                case 23: return given(one, 20, deeper) - asked(one, SIZE_ASK, deeper);
                case 24: return 2 * given(one, 21, deeper);
                default: return NONE;
            }
        }

        private void leave(int body) {
            if (traceLength < LONGEST_TRACE) {
                trace[traceLength] = body;
                traceLength++;
            }
        }
    }
}
