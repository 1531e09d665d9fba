import java.lang.reflect.InvocationTargetException;
import java.lang.reflect.Method;
import java.util.ArrayList;
import java.util.List;
import java.util.Random;

/** Runs of drawn calls, each made of LuggageBelt and of PlainBelt: both must answer the same. */
public final class AgainstPlainTest {
    private static final int RUNS = 1500, CALLS = 420;
    private static final int[] WILD = {Integer.MIN_VALUE, Integer.MAX_VALUE, -1000000, -2, -1, 6, 7, 8, 12, 13, 41, 61, 256};

    private final Random draw;
    private final LuggageBelt real = new LuggageBelt();
    private final PlainBelt plain = new PlainBelt();
    private final List<String> calls = new ArrayList<>();
    private boolean differs;

    private AgainstPlainTest(long seed) {
        draw = new Random(seed);
    }

    /** With two numbers: the first seed, and how many runs. */
    public static void main(String[] args) throws Exception {
        int first = args.length == 2 ? Integer.parseInt(args[0]) : 0;
        int last = first + (args.length == 2 ? Integer.parseInt(args[1]) : RUNS);
        int bad = 0;
        for (int seed = first; seed < last && bad < 5; seed++) {
            AgainstPlainTest run = new AgainstPlainTest(seed);
            while (run.calls.size() < CALLS && !run.differs) {
                run.next();
            }
            if (run.differs) {
                bad++;
                System.out.println("run " + seed + ": " + run.calls);
            }
        }
        Due.due("runs that differ", bad, 0);
        Due.end();
    }

    private long call(String name, int... args) throws Exception {
        if (differs) {
            return 0;
        }
        String told = name + java.util.Arrays.toString(args);
        long want = answer(plain, name, args);
        long got;
        try {
            got = answer(real, name, args);
        } catch (InvocationTargetException e) {
            e.getCause().printStackTrace();
            got = Long.MIN_VALUE;
        }
        calls.add(told + " = " + got);
        if (got != want) {
            differs = true;
            calls.add("due is " + want);
        }
        return want;
    }

    private static long answer(Object belt, String name, int[] args) throws Exception {
        for (Method m : belt.getClass().getMethods()) {
            if (m.getName().equals(name) && m.getDeclaringClass() == belt.getClass() && m.getParameterCount() == args.length) {
                Object[] boxed = new Object[args.length];
                for (int i = 0; i < args.length; i++) {
                    boxed[i] = args[i];
                }
                return ((Number) m.invoke(belt, boxed)).longValue();
            }
        }
        throw new IllegalArgumentException(name);
    }

    /** A number from..to, now and then one that is not as told. */
    private int pick(int from, int to) {
        int chance = draw.nextInt(60);
        if (chance == 0) {
            return WILD[draw.nextInt(WILD.length)];
        }
        if (chance == 1) {
            return draw.nextBoolean() ? from - 1 : to + 1;
        }
        return chance < 6 ? (draw.nextBoolean() ? from : to) : from + draw.nextInt(to - from + 1);
    }

    private int one() {
        return pick(0, Math.max(0, plain.world.size() - 1));
    }

    private int spot() {
        return pick(0, Math.max(0, plain.world.places - 1));
    }

    private void next() throws Exception {
        if (plain.world.size() == 0 ? draw.nextInt(3) == 0 : draw.nextInt(120) == 0) {
            tellHall();
        }
        switch (draw.nextInt(8)) {
            case 0:
            case 1:
                changeRows();
                break;
            case 2:
            case 3:
                act();
                break;
            case 4:
                look();
                break;
            case 5:
                foretell();
                break;
            case 6:
                plan();
                break;
            default:
                guess();
                break;
        }
        if (draw.nextInt(3) == 0) {
            call("status");
        }
    }

    private void tellHall() throws Exception {
        StringBuilder text = new StringBuilder("b");
        int places = 4 + draw.nextInt(draw.nextBoolean() ? 3 : 9);
        text.append(places).append(';');
        int most = 1 + draw.nextInt(6);
        int colours = 1 + draw.nextInt(4);
        for (int t = 0; t < most; t++) {
            text.append("cshld".charAt(draw.nextInt(5))).append(draw.nextInt(places)).append(',');
            text.append(draw.nextInt(colours)).append(';');
        }
        int breaks = draw.nextInt(4) == 0 ? 1 + draw.nextInt(2) : 0;
        String signs = "b0123456789,;cshldx \u00ff";
        for (int i = 0; i < breaks; i++) {
            int at = draw.nextInt(text.length());
            char sign = signs.charAt(draw.nextInt(signs.length()));
            switch (draw.nextInt(4)) {
                case 0: text.deleteCharAt(at); break;
                case 1: text.insert(at, sign); break;
                case 2: text.setCharAt(at, sign); break;
                default: text.setLength(at + 1); break;
            }
        }
        if (draw.nextInt(12) == 0) {
            text.append("c0,0;s1,0;h2,1;l3,1;d0,1;");
        }
        for (int i = 0; i < text.length(); i++) {
            call("feed", text.charAt(i));
        }
        call("count", 7);
        call("hall");
        call("fault");
        call("count", 1);
        call("count", 7);
    }

    private void changeRows() throws Exception {
        int row = pick(0, draw.nextBoolean() ? 2 : 7);
        switch (draw.nextInt(7)) {
            case 0: call("row", row, pick(0, 2), pick(0, draw.nextBoolean() ? 8 : 40)); break;
            case 1: call("set", row, pick(0, 8), draw.nextInt()); break;
            case 2: call("set", row, pick(0, 39), pick(0, 40)); break;
            case 3: call("copy", row, pick(0, 5), pick(0, 2), pick(0, 5), pick(0, 4)); break;
            case 4: call("copy", row, pick(0, 5), row, pick(0, 5), pick(0, 4)); break;
            case 5: call("drop", row); break;
            default: call("feed", draw.nextInt(8) == 0 ? pick(0, 255) : "bcshld0123,;".charAt(draw.nextInt(12))); break;
        }
    }

    private void act() throws Exception {
        switch (draw.nextInt(12)) {
            case 0:
            case 1:
            case 2:
            case 3: call("ticks", pick(1, draw.nextInt(4) == 0 ? 24 : 6)); break;
            case 4:
            case 5: call("move", one(), spot()); break;
            case 6: call("paint", one(), pick(0, 3)); break;
            case 7:
            case 8: call("back", one()); break;
            case 9: call("turn"); break;
            case 10:
                for (int i = draw.nextInt(5); i >= 0; i--) {
                    call("undo");
                }
                break;
            default: call(draw.nextBoolean() ? "image" : "restore", pick(0, 1)); break;
        }
        call("count", pick(0, 7));
    }

    private void look() throws Exception {
        for (int i = 0; i < 3; i++) {
            call("traveller", one(), pick(0, 5));
            call("bag", one(), pick(0, 1));
            call("stand", pick(0, 6));
            call("place", spot());
            call("count", pick(0, 7));
        }
        call("kind", one());
        call("as", one(), pick(0, 5));
        call("ask", one(), pick(0, 1));
        for (int i = 0; i < 7; i++) {
            call("trace", i == 6 ? pick(0, 16) : i);
        }
    }

    private void foretell() throws Exception {
        call("ahead", one(), pick(0, 60));
        call("with", one(), pick(0, 60), pick(0, 1));
        call("all", pick(0, 60), pick(0, 2));
        call("when", one());
        call("empty");
        call("share", one(), pick(0, 999));
        call("sets", pick(0, draw.nextBoolean() ? 4 : 99), pick(0, 2));
        call("drawn", pick(0, 60), pick(1, 999999), pick(0, 1));
    }

    private void plan() throws Exception {
        int n = pick(1, 60);
        int one = one();
        call("best", one, n, 0);
        call("best", one, n, pick(0, 1));
        call("byTurns", pick(0, 4), pick(1, 20));
        n = pick(1, 40);
        call("marks", n, 0);
        call("marks", n, pick(0, 1));
        int p = pick(0, 10);
        n = pick(0, 60);
        one = one();
        call("sleep", one, n, p, 0);
        call("sleep", one, n, p, pick(0, 1));
        if (draw.nextInt(6) == 0) {
            n = pick(1, 40);
            for (int k = -1; k <= 6; k++) {
                call("order", n, k);
            }
        }
        call("order", n, pick(-1, 0));
    }

    private void guess() throws Exception {
        int row = draw.nextInt(8);
        int n = 1 + draw.nextInt(12);
        int from = draw.nextInt(3);
        int bag = one();
        call("row", row, draw.nextInt(3), from + n);
        boolean isTrue = draw.nextInt(5) > 0;
        int wrongAt = draw.nextInt(n);
        for (int k = 0; k < n; k++) {
            int where = plain.ahead(bag, k + 1);
            call("set", row, from + k, isTrue || k != wrongAt ? where : draw.nextInt(36));
        }
        int some = draw.nextInt(4) == 0 ? pick(1, 12) : 1 + draw.nextInt(n);
        call("who", one(), pick(0, 1), bag, row, from, some);
        call("who", bag, pick(0, 1), bag, row, from, n);
        call("who", one(), pick(0, 1), bag, pick(0, 7), pick(0, 4), pick(1, 12));
        call("colours", bag, row, from, some);
        call("colours", one(), pick(0, 7), pick(0, 4), pick(1, 12));
    }
}
