import java.util.ArrayDeque;
import java.util.ArrayList;
import java.util.Collections;
import java.util.Deque;
import java.util.List;

/**
 * The document written down a second time, as plainly as it goes and without regard to speed or room: every order is
 * tried, every bag is moved, the asks are methods that override one another. AgainstPlainTest compares both.
 */
public final class PlainBelt {
    static final int NONE = -1000000, BAD = -1000001, STATE = -1000002, FULL = -1000003;
    /** Stands for a number among the tokens; no byte is that. */
    private static final char NUMBER = 0x100;

    /** The asks, by the language's own rules for what is inherited. */
    interface Traveller {
        PlainBelt belt();

        int number();

        default int sizeOf() {
            return size10();
        }

        default int markOf() {
            return mark20();
        }

        default int size10() {
            belt().leave(10);
            return belt().world.ones.get(number()).stand;
        }

        default int mark20() {
            belt().leave(20);
            return number();
        }
    }

    static class Base {
        final PlainBelt belt;
        final int number;

        Base(PlainBelt belt, int number) {
            this.belt = belt;
            this.number = number;
        }

        public PlainBelt belt() {
            return belt;
        }

        public int number() {
            return number;
        }
    }

    static class Calm extends Base implements Traveller {
        Calm(PlainBelt belt, int number) {
            super(belt, number);
        }

        @Override
        public int sizeOf() {
            belt.leave(11);
            int ten = size10();
            return ten + markOf();
        }

        @Override
        public int markOf() {
            belt.leave(21);
            return mark20() + belt.world.ones.get(number).saw;
        }
    }

    static class Shy extends Calm {
        Shy(PlainBelt belt, int number) {
            super(belt, number);
        }

        @Override
        public int sizeOf() {
            belt.leave(12);
            return 0 - super.sizeOf();
        }

        @Override
        public int markOf() {
            belt.leave(24);
            return 2 * super.markOf();
        }
    }

    static class Hasty extends Calm {
        Hasty(PlainBelt belt, int number) {
            super(belt, number);
        }

        @Override
        public int markOf() {
            belt.leave(22);
            return super.markOf() - 1000;
        }
    }

    static class Slow extends Base implements Traveller {
        Slow(PlainBelt belt, int number) {
            super(belt, number);
        }

        @Override
        public int sizeOf() {
            belt.leave(13);
            return size10() - 100;
        }

        @Override
        public int markOf() {
            belt.leave(23);
            int twenty = mark20();
            return twenty - sizeOf();
        }
    }

    static class Dozy extends Slow {
        Dozy(PlainBelt belt, int number) {
            super(belt, number);
        }

        @Override
        public int sizeOf() {
            belt.leave(14);
            return 2 * super.sizeOf();
        }
    }

    static final class One {
        char sort;
        int stand;
        int saw;
        int bag = NONE;
        boolean sleeps;

        One copy() {
            One one = new One();
            one.sort = sort;
            one.stand = stand;
            one.saw = saw;
            one.bag = bag;
            one.sleeps = sleeps;
            return one;
        }
    }

    static final class World {
        int places;
        int tick;
        List<One> ones = new ArrayList<>();
        List<Integer> colours = new ArrayList<>();
        List<Integer> where = new ArrayList<>();
        List<Integer> rank = new ArrayList<>();

        World copy() {
            World w = new World();
            w.places = places;
            w.tick = tick;
            for (One one : ones) {
                w.ones.add(one.copy());
            }
            w.colours.addAll(colours);
            w.where.addAll(where);
            w.rank.addAll(rank);
            return w;
        }

        int size() {
            return ones.size();
        }

        void turn(int by) {
            for (int b = 0; b < size(); b++) {
                if (where.get(b) < 20) {
                    where.set(b, (where.get(b) + by + places) % places);
                }
            }
        }

        int bagAt(int place) {
            return where.indexOf(place) < 0 ? NONE : where.indexOf(place);
        }

        void tick() {
            turn(1);
            if (bagAt(0) == NONE) {
                for (int b : rank) {
                    if (where.get(b) == 20) {
                        where.set(b, 0);
                        break;
                    }
                }
            }
            for (int t = 0; t < size(); t++) {
                One one = ones.get(t);
                int b = bagAt(one.stand);
                if (one.bag != NONE || one.sleeps || b == NONE) {
                    continue;
                }
                if (b == t) {
                    one.saw = Math.min(99, one.saw + 1);
                }
                boolean takes = one.sort == 'h' ? colours.get(b).equals(colours.get(t)) : b == t;
                takes &= one.sort != 's' || alone(t);
                takes &= one.sort != 'l' || one.saw >= 2;
                takes &= one.sort != 'd' || one.saw >= 3;
                if (takes) {
                    one.bag = b;
                    where.set(b, 30 + t);
                }
            }
            tick++;
        }

        boolean alone(int t) {
            int stand = ones.get(t).stand;
            for (int o = 0; o < size(); o++) {
                int other = ones.get(o).stand;
                boolean near = other == stand || other == (stand + 1) % places || other == (stand + places - 1) % places;
                if (o != t && ones.get(o).bag == NONE && near) {
                    return false;
                }
            }
            return true;
        }

        World run(int n) {
            for (int i = 0; i < n; i++) {
                tick();
            }
            return this;
        }

        void back(int t) {
            where.set(ones.get(t).bag, 20);
            ones.get(t).bag = NONE;
            ones.get(t).saw = 0;
        }

        int gone() {
            int set = 0;
            for (int t = 0; t < size(); t++) {
                set |= ones.get(t).bag != NONE ? 1 << t : 0;
            }
            return set;
        }

        int wrong() {
            int set = 0;
            for (int t = 0; t < size(); t++) {
                set |= ones.get(t).bag != NONE && ones.get(t).bag != t ? 1 << t : 0;
            }
            return set;
        }

        int robbed() {
            int set = 0;
            for (int t = 0; t < size(); t++) {
                set |= ones.get(t).bag == NONE && where.get(t) >= 30 ? 1 << t : 0;
            }
            return set;
        }

        int bags(int from, int below) {
            int set = 0;
            for (int b = 0; b < size(); b++) {
                set |= where.get(b) >= from && where.get(b) < below ? 1 << b : 0;
            }
            return set;
        }

        int saw() {
            int all = 0;
            for (One one : ones) {
                all += one.saw;
            }
            return all;
        }
    }

    World world = new World();
    private final World[] images = new World[2];
    private final Deque<World> acts = new ArrayDeque<>();
    private final Object[] rows = new Object[8];
    private final StringBuilder tape = new StringBuilder();
    private final List<Integer> trace = new ArrayList<>();
    private int latestFault;
    private int latestFinding;

    void leave(int body) {
        if (trace.size() < 16) {
            trace.add(body);
        }
    }

    private boolean noHall() {
        return world.size() == 0;
    }

    private static boolean in(int v, int from, int to) {
        return v >= from && v <= to;
    }

    private boolean one(int t) {
        return in(t, 0, world.size() - 1);
    }

    private int found(int finding) {
        latestFinding = finding;
        return -1000010 - finding;
    }

    private int fine(int v) {
        latestFinding = 0;
        return v;
    }

    private static int length(Object row) {
        return java.lang.reflect.Array.getLength(row);
    }

    // ---- rows

    public int row(int row, int lane, int n) {
        if (!in(row, 0, 7) || !in(lane, 0, 2) || n > 40) {
            return BAD;
        }
        if (n < 0) {
            return found(4);
        }
        rows[row] = lane == 0 ? new byte[n] : lane == 1 ? new short[n] : new int[n];
        return fine(n);
    }

    public int set(int row, int i, int v) {
        if (!in(row, 0, 7)) {
            return BAD;
        }
        if (rows[row] == null) {
            return found(1);
        }
        if (!in(i, 0, length(rows[row]) - 1)) {
            return found(2);
        }
        if (rows[row] instanceof byte[] bytes) {
            return fine(bytes[i] = (byte) v);
        }
        if (rows[row] instanceof short[] shorts) {
            return fine(shorts[i] = (short) v);
        }
        return fine(((int[]) rows[row])[i] = v);
    }

    public int copy(int a, int i, int b, int j, int n) {
        if (!in(a, 0, 7) || !in(b, 0, 7)) {
            return BAD;
        }
        try {
            System.arraycopy(rows[a], i, rows[b], j, n);
        } catch (NullPointerException e) {
            return found(1);
        } catch (ArrayStoreException e) {
            return found(5);
        } catch (IndexOutOfBoundsException e) {
            return found(2);
        }
        return fine(n);
    }

    public int drop(int row) {
        if (!in(row, 0, 7)) {
            return BAD;
        }
        if (rows[row] == null) {
            return found(1);
        }
        int had = length(rows[row]);
        rows[row] = null;
        return fine(had);
    }

    // ---- what is told

    public int feed(int letter) {
        if (!in(letter, 0, 255)) {
            return BAD;
        }
        if (tape.length() == 110) {
            return FULL;
        }
        tape.append((char) letter);
        return tape.length();
    }

    public int hall() {
        String text = tape.toString();
        tape.setLength(0);
        World read = new World();
        int state = 0;
        int at = 0;
        while (at < text.length()) {
            int end = at + 1;
            char c = text.charAt(at);
            boolean figure = in(c, '0', '9');
            while (figure && end < text.length() && in(text.charAt(end), '0', '9')) {
                end++;
            }
            int fault = step(read, state, figure ? NUMBER : c, figure ? text.substring(at, end) : "");
            if (fault != 0) {
                latestFault = fault;
                return -1000100 - at;
            }
            state = state == 7 ? 3 : state + 1;
            at = end;
        }
        if (state != 3 || read.size() == 0) {
            latestFault = 1;
            return -1000100 - at;
        }
        world = read;
        acts.clear();
        return read.size();
    }

    private static int step(World read, int state, char c, String figures) {
        String number = String.valueOf(NUMBER);
        String[] may = {"b", number, ";", "cshld", number, ",", number, ";"};
        if (may[state].indexOf(c) < 0 || figures.length() > 2) {
            return 1;
        }
        int v = figures.isEmpty() ? 0 : Integer.parseInt(figures);
        switch (state) {
            case 1:
                read.places = v;
                return in(v, 4, 12) ? 0 : 2;
            case 3:
                if (read.size() == 6) {
                    return 3;
                }
                One one = new One();
                one.sort = c;
                read.rank.add(read.size());
                read.ones.add(one);
                read.where.add(20);
                return 0;
            case 4:
                read.ones.get(read.size() - 1).stand = v;
                return in(v, 0, read.places - 1) ? 0 : 2;
            case 6:
                read.colours.add(v);
                return in(v, 0, 3) ? 0 : 2;
            default:
                return 0;
        }
    }

    public int fault() {
        return latestFault;
    }

    public int undo() {
        if (acts.isEmpty()) {
            return STATE;
        }
        world = acts.removeLast();
        return acts.size();
    }

    // ---- what is done

    private void act() {
        acts.addLast(world.copy());
        if (acts.size() > 24) {
            acts.removeFirst();
        }
    }

    public int ticks(int n) {
        if (noHall()) {
            return STATE;
        }
        if (!in(n, 1, 24)) {
            return BAD;
        }
        if (world.tick + n > 999) {
            return FULL;
        }
        for (int i = 0; i < n; i++) {
            act();
            world.tick();
        }
        return world.gone();
    }

    public int move(int traveller, int place) {
        if (!one(traveller) || !in(place, 0, world.places - 1)) {
            return BAD;
        }
        One one = world.ones.get(traveller);
        if (one.bag != NONE || one.stand == place) {
            return STATE;
        }
        act();
        int stood = one.stand;
        one.stand = place;
        return stood;
    }

    public int paint(int bag, int colour) {
        if (!one(bag) || !in(colour, 0, 3)) {
            return BAD;
        }
        act();
        return world.colours.set(bag, colour);
    }

    public int back(int traveller) {
        if (!one(traveller)) {
            return BAD;
        }
        int had = world.ones.get(traveller).bag;
        if (had == NONE) {
            return STATE;
        }
        act();
        world.back(traveller);
        return had;
    }

    public int turn() {
        if (noHall()) {
            return STATE;
        }
        act();
        world.turn(1);
        return Integer.bitCount(world.bags(0, 12));
    }

    public int traveller(int traveller, int what) {
        if (!one(traveller) || !in(what, 0, 5)) {
            return BAD;
        }
        One one = world.ones.get(traveller);
        int[] answers = {one.stand, one.bag == NONE ? 1 : 0, one.bag, one.saw,
            world.wrong() >> traveller & 1, world.robbed() >> traveller & 1};
        return answers[what];
    }

    public int bag(int bag, int what) {
        if (!one(bag) || !in(what, 0, 1)) {
            return BAD;
        }
        return what == 0 ? world.colours.get(bag) : world.where.get(bag);
    }

    public int stand(int what) {
        if (noHall()) {
            return STATE;
        }
        int everyone = (1 << world.size()) - 1;
        int[] answers = {world.places, world.bags(20, 21), world.bags(0, 12), world.bags(30, 36),
            everyone ^ world.gone(), world.wrong(), world.robbed()};
        return in(what, 0, 6) ? answers[what] : BAD;
    }

    public int place(int place) {
        return in(place, 0, world.places - 1) ? world.bagAt(place) : BAD;
    }

    // ---- foretold

    public int ahead(int bag, int n) {
        return one(bag) && in(n, 0, 60) ? world.copy().run(n).where.get(bag) : BAD;
    }

    public int with(int traveller, int n, int what) {
        if (!one(traveller) || !in(n, 0, 60) || !in(what, 0, 1)) {
            return BAD;
        }
        One one = world.copy().run(n).ones.get(traveller);
        return what == 0 ? one.bag : one.saw;
    }

    public int all(int n, int what) {
        if (noHall()) {
            return STATE;
        }
        if (!in(n, 0, 60) || !in(what, 0, 2)) {
            return BAD;
        }
        World then = world.copy().run(n);
        return new int[] {then.gone(), then.wrong(), then.robbed()}[what];
    }

    public int when(int traveller) {
        if (!one(traveller)) {
            return BAD;
        }
        for (int n = 0; n <= 60; n++) {
            if (with(traveller, n, 0) != NONE) {
                return n;
            }
        }
        return NONE;
    }

    public int empty() {
        if (noHall()) {
            return STATE;
        }
        for (int n = 0; n <= 60; n++) {
            if (world.copy().run(n).bags(0, 21) == 0) {
                return n;
            }
        }
        return NONE;
    }

    public int best(int traveller, int n, int what) {
        if (!one(traveller) || !in(n, 1, 60) || !in(what, 0, 1)) {
            return BAD;
        }
        if (world.ones.get(traveller).bag != NONE) {
            return STATE;
        }
        for (int soon = 1; soon <= n; soon++) {
            for (int place = 0; place < world.places; place++) {
                World then = world.copy();
                then.ones.get(traveller).stand = place;
                if (then.run(soon).ones.get(traveller).bag == traveller) {
                    return what == 0 ? place : soon;
                }
            }
        }
        return NONE;
    }

    private static void orders(List<Integer> done, int size, List<List<Integer>> all) {
        if (done.size() == size) {
            all.add(new ArrayList<>(done));
        }
        for (int b = 0; b < size; b++) {
            if (!done.contains(b)) {
                done.add(b);
                orders(done, size, all);
                done.remove(done.size() - 1);
            }
        }
    }

    public int order(int n, int k) {
        if (noHall()) {
            return STATE;
        }
        if (!in(n, 1, 40) || k < -1) {
            return BAD;
        }
        List<List<Integer>> all = new ArrayList<>();
        orders(new ArrayList<>(), world.size(), all);
        List<Integer> best = null;
        int most = 0;
        int least = 0;
        for (List<Integer> order : all) {
            World then = world.copy();
            then.rank = order;
            then.run(n);
            int own = Integer.bitCount(then.gone() & ~then.wrong());
            if (best == null || own > most || own == most && then.saw() < least) {
                best = order;
                most = own;
                least = then.saw();
            }
        }
        return k == -1 ? most : k < best.size() ? best.get(k) : NONE;
    }

    public int marks(int n, int what) {
        if (noHall()) {
            return STATE;
        }
        if (!in(n, 1, 40) || !in(what, 0, 1)) {
            return BAD;
        }
        for (int size = 0; size <= 6; size++) {
            for (int set = 0; set < 64; set++) {
                if (Integer.bitCount(set) == size && set < 1 << world.size() && marked(set, n)) {
                    return what == 0 ? size : set;
                }
            }
        }
        throw new IllegalStateException("all marked is not enough");
    }

    private boolean marked(int set, int n) {
        World then = world.copy();
        for (int b = 0; b < world.size(); b++) {
            if ((set >> b & 1) == 1) {
                then.colours.set(b, 100 + b);
            }
        }
        return (then.run(n).wrong() & ~world.wrong()) == 0;
    }

    public int sets(int v, int what) {
        if (noHall()) {
            return STATE;
        }
        if (!in(v, 0, 99) || !in(what, 0, 2)) {
            return BAD;
        }
        List<Integer> sets = new ArrayList<>();
        for (int set = 0; set < 1 << world.size(); set++) {
            int seen = 0;
            for (int t = 0; t < world.size(); t++) {
                seen += (set >> t & 1) * world.ones.get(t).saw;
            }
            if (seen == v && (set & world.gone()) == 0) {
                sets.add(set);
            }
        }
        int inAll = sets.stream().reduce((a, b) -> a & b).orElse(0);
        int inAny = sets.stream().reduce((a, b) -> a | b).orElse(0);
        return new int[] {sets.size(), inAll, inAny}[what];
    }

    public int share(int traveller, int n) {
        if (!one(traveller) || !in(n, 0, 999)) {
            return BAD;
        }
        if (world.saw() == 0) {
            return 0;
        }
        List<Integer> gets = new ArrayList<>();
        int over = n;
        for (One one : world.ones) {
            gets.add(n * one.saw / world.saw());
            over -= n * one.saw / world.saw();
        }
        for (int t = 0; t < world.size(); t++) {
            if (over > 0 && world.ones.get(t).saw > 0) {
                gets.set(t, gets.get(t) + 1);
                over--;
            }
        }
        return gets.get(traveller);
    }

    public int byTurns(int n, int m) {
        if (noHall()) {
            return STATE;
        }
        return in(n, 0, 4) && in(m, 1, 20) ? outcome(world.copy(), n, m, true) : BAD;
    }

    private static int outcome(World w, int left, int m, boolean first) {
        if (left == 0) {
            return Integer.bitCount(w.copy().run(m).gone());
        }
        World turned = w.copy();
        turned.turn(first ? 1 : -1);
        int a = outcome(w, left - 1, m, !first);
        int b = outcome(turned, left - 1, m, !first);
        return first ? Math.max(a, b) : Math.min(a, b);
    }

    private boolean fits(World w, int bag, int row, int i, int n) {
        for (int k = 0; k < n; k++) {
            w.tick();
            if (w.where.get(bag) != java.lang.reflect.Array.getInt(rows[row], i + k)) {
                return false;
            }
        }
        return true;
    }

    private int itemsFault(int row, int i, int n) {
        if (rows[row] == null) {
            return 1;
        }
        return i < 0 || (long) i + n > length(rows[row]) ? 2 : 0;
    }

    public int who(int traveller, int which, int bag, int row, int i, int n) {
        if (!one(traveller) || !in(which, 0, 1) || !one(bag) || !in(row, 0, 7) || !in(n, 1, 12)) {
            return BAD;
        }
        if (itemsFault(row, i, n) != 0) {
            return found(itemsFault(row, i, n));
        }
        int set = 0;
        for (int v = 0; v < (which == 0 ? 6 : world.places); v++) {
            World w = world.copy();
            if (which == 0) {
                w.ones.get(traveller).sort = "?cshld".charAt(v);
            } else {
                w.ones.get(traveller).stand = v;
            }
            if ((which == 1 || v > 0) && fits(w, bag, row, i, n)) {
                set |= 1 << v;
            }
        }
        return fine(set);
    }

    public int colours(int bag, int row, int i, int n) {
        if (!one(bag) || !in(row, 0, 7) || !in(n, 1, 12)) {
            return BAD;
        }
        if (itemsFault(row, i, n) != 0) {
            return found(itemsFault(row, i, n));
        }
        int set = 0;
        for (int v = 0; v < 4; v++) {
            World w = world.copy();
            w.colours.set(bag, v);
            set |= fits(w, bag, row, i, n) ? 1 << v : 0;
        }
        return fine(set);
    }

    public long sleep(int bag, int n, int p, int what) {
        if (!one(bag) || !in(n, 0, 60) || !in(p, 0, 10) || !in(what, 0, 1)) {
            return BAD;
        }
        long above = onBelt(world.copy(), 0, bag, n, p);
        long below = 1;
        for (One one : world.ones) {
            below *= one.bag == NONE ? 10 : 1;
        }
        long common = java.math.BigInteger.valueOf(above).gcd(java.math.BigInteger.valueOf(below)).longValue();
        return (what == 0 ? above : below) / common;
    }

    private static long onBelt(World w, int t, int bag, int n, int p) {
        if (t == w.size()) {
            return w.copy().run(n).where.get(bag) < 20 ? 1 : 0;
        }
        One one = w.ones.get(t);
        if (one.bag != NONE) {
            return onBelt(w, t + 1, bag, n, p);
        }
        one.sleeps = true;
        long asleep = onBelt(w, t + 1, bag, n, p);
        one.sleeps = false;
        long awake = onBelt(w, t + 1, bag, n, p);
        return p * asleep + (10 - p) * awake;
    }

    public int drawn(int n, int seed, int what) {
        if (noHall()) {
            return STATE;
        }
        if (!in(n, 0, 60) || !in(seed, 1, 999999) || !in(what, 0, 1)) {
            return BAD;
        }
        World w = world.copy();
        long x = seed;
        int[] answers = new int[2];
        for (int i = 0; i < n; i++) {
            x = x * 16807 % 2147483647;
            int t = (int) (x % w.size());
            if (w.ones.get(t).bag != NONE) {
                w.back(t);
            } else if (x % 3 == 0) {
                w.ones.get(t).stand = (int) (x % w.places);
            }
            World before = w.copy();
            w.tick();
            for (int o = 0; o < w.size(); o++) {
                if (before.ones.get(o).bag == NONE && w.ones.get(o).bag != NONE) {
                    answers[0]++;
                    answers[1] += w.ones.get(o).bag == o ? 0 : 1;
                }
            }
        }
        return answers[what];
    }

    public int image(int k) {
        if (!in(k, 0, 1)) {
            return BAD;
        }
        if (noHall()) {
            return STATE;
        }
        images[k] = world.copy();
        return 1;
    }

    public int restore(int k) {
        if (!in(k, 0, 1)) {
            return BAD;
        }
        if (images[k] == null) {
            return STATE;
        }
        world = images[k].copy();
        acts.clear();
        return 1;
    }

    // ---- asked

    private Object made(int t) {
        switch (world.ones.get(t).sort) {
            case 'c': return new Calm(this, t);
            case 's': return new Shy(this, t);
            case 'h': return new Hasty(this, t);
            case 'l': return new Slow(this, t);
            default: return new Dozy(this, t);
        }
    }

    public int kind(int one) {
        return one(one) ? "?cshld".indexOf(world.ones.get(one).sort) : BAD;
    }

    public int as(int one, int kind) {
        if (!one(one) || !in(kind, 0, 5)) {
            return BAD;
        }
        List<Class<?>> kinds = List.of(Traveller.class, Calm.class, Shy.class, Hasty.class, Slow.class, Dozy.class);
        return kinds.get(kind).isInstance(made(one)) ? fine(one) : found(3);
    }

    public int ask(int one, int what) {
        if (!one(one) || !in(what, 0, 1)) {
            return BAD;
        }
        trace.clear();
        Traveller made = (Traveller) made(one);
        return what == 0 ? made.sizeOf() : made.markOf();
    }

    public int trace(int i) {
        return in(i, 0, trace.size() - 1) ? trace.get(i) : NONE;
    }

    public int count(int what) {
        List<Object> missing = new ArrayList<>(java.util.Arrays.asList(rows));
        missing.removeAll(Collections.singleton(null));
        int[] answers = {missing.size(), world.size(), world.places, world.tick,
            Integer.bitCount(world.gone()), world.saw(), acts.size(), tape.length()};
        return in(what, 0, 7) ? answers[what] : BAD;
    }

    public int status() {
        return latestFinding;
    }
}
