/**
 * The promises one by one, with answers worked out by hand: ordinary inputs, the edges that the document names,
 * and wrong inputs.
 */
public final class PromiseTest {
    private static final int NONE = -1000000, BAD = -1000001, STATE = -1000002, FULL = -1000003;
    private static final int NULL = -1000011, PLACE = -1000012, KIND = -1000013, SIZE = -1000014, STORE = -1000015;
    private static final int MIN = Integer.MIN_VALUE, MAX = Integer.MAX_VALUE;

    /** Traveller 0 is robbed by the hasty one: bag 0 is taken behind 2 ticks, bag 1 goes round for ever. */
    private static final String ROBBERY = "b6;c3,1;h1,1;";
    /** One of each kind, far apart, each of a colour of its own but the last. */
    private static final String ALL_KINDS = "b12;c2,0;s5,1;h8,2;l10,3;d0,3;";

    public static void main(String[] args) {
        aNewObject();
        rows();
        copies();
        drops();
        feeds();
        halls();
        undos();
        ticks();
        moves();
        paints();
        backs();
        turns();
        travellersAndBags();
        stands();
        foretold();
        best();
        order();
        marks();
        sets();
        share();
        byTurns();
        who();
        colours();
        sleep();
        drawn();
        images();
        kinds();
        asks();
        counts();
        status();
        Due.end();
    }

    private static void due(String call, long got, long want) {
        Due.due(call, got, want);
    }

    private static void aNewObject() {
        LuggageBelt x = new LuggageBelt();
        for (int k = 0; k < 8; k++) {
            due("1 count " + k, x.count(k), 0);
        }
        due("1 stand", x.stand(0), STATE);
        due("1 fault", x.fault(), 0);
        due("1 status", x.status(), 0);
        due("1 trace", x.trace(0), NONE);
        due("1 undo", x.undo(), STATE);
        due("1 traveller", x.traveller(0, 0), BAD);
        due("1 place", x.place(0), BAD);
        due("1 constants", LuggageBelt.NONE + 10L * LuggageBelt.BAD + 100L * LuggageBelt.STATE + 1000L * LuggageBelt.FULL,
            NONE + 10L * BAD + 100L * STATE + 1000L * FULL);
    }

    private static void rows() {
        LuggageBelt x = Due.belt("b12;c11,0;");
        due("2 row of none", x.row(0, 0, 0), 0);
        due("2 row of 40", x.row(7, 2, 40), 40);
        due("2 above 40", x.row(0, 0, 41), BAD);
        due("2 row -1", x.row(-1, 0, 1), BAD);
        due("2 row 8", x.row(8, 0, 1), BAD);
        due("2 lane -1", x.row(0, -1, 1), BAD);
        due("2 lane 3", x.row(0, 3, 1), BAD);
        due("2 size", x.row(0, 0, -1), SIZE);
        due("2 size", x.row(0, 0, MIN), SIZE);
        due("2 bad ahead of size", x.row(0, 3, -1), BAD);
        due("2 a row of none stays", x.set(0, 0, 1), PLACE);
        due("2 count", x.count(0), 2);
        x.row(1, 0, 2);
        x.set(1, 0, 5);
        due("2 item is 5", x.colours(0, 1, 0, 1), 0);
        due("2 what is found changes nothing", x.row(1, 0, -1), SIZE);
        due("2 item is 5 yet", x.colours(0, 1, 0, 1), 0);
        x.row(1, 1, 2);
        due("2 items are 0 at first", x.colours(0, 1, 0, 1), 15);

        x.row(2, 0, 3);
        due("3 byte", x.set(2, 0, 127), 127);
        due("3 byte cut", x.set(2, 0, 128), -128);
        due("3 byte cut", x.set(2, 2, 511), -1);
        due("3 byte cut", x.set(2, 2, MIN), 0);
        x.row(3, 1, 3);
        due("3 short", x.set(3, 1, 32767), 32767);
        due("3 short cut", x.set(3, 1, 32768), -32768);
        due("3 short cut", x.set(3, 1, 65536 + 7), 7);
        x.row(4, 2, 3);
        due("3 int", x.set(4, 2, MAX), MAX);
        due("3 int", x.set(4, 2, MIN), MIN);
        due("3 row", x.set(8, 0, 0), BAD);
        due("3 row", x.set(-1, 0, 0), BAD);
        due("3 missing", x.set(6, 9, 0), NULL);
        due("3 place", x.set(4, 3, 0), PLACE);
        due("3 place", x.set(4, -1, 0), PLACE);
        due("3 place", x.set(4, MAX, 0), PLACE);
        x.set(4, 0, 256);
        due("3 an int is not cut", x.colours(0, 4, 0, 1), 0);
        x.set(4, 0, 0);
        due("3 set", x.colours(0, 4, 0, 1), 15);
    }

    /** Bag 0 of this hall passes 0, 1, 2, .. so that items can be told by colours(). */
    private static LuggageBelt withRows() {
        LuggageBelt x = Due.belt("b12;c11,0;");
        x.row(0, 0, 4);
        x.row(1, 0, 5);
        x.row(2, 1, 4);
        for (int i = 0; i < 4; i++) {
            x.set(0, i, i);
        }
        return x;
    }

    private static void copies() {
        LuggageBelt x = withRows();
        due("4 copy", x.copy(0, 0, 1, 1, 4), 4);
        due("4 copied", x.colours(0, 1, 1, 4), 15);
        due("4 none", x.copy(0, 4, 1, 5, 0), 0);
        due("4 onto itself", x.copy(0, 0, 0, 1, 3), 3);
        due("4 as they were", x.colours(0, 0, 1, 3), 15);
        due("4 back", x.copy(0, 1, 0, 0, 3), 3);
        due("4 as they were", x.colours(0, 0, 0, 3), 15);
        due("4 row", x.copy(8, 0, 0, 0, 1), BAD);
        due("4 row", x.copy(0, 0, -1, 0, 1), BAD);
        due("4 bad ahead of null", x.copy(7, 0, 8, 0, 1), BAD);
        due("4 null", x.copy(7, 0, 0, 0, 1), NULL);
        due("4 null ahead of place", x.copy(0, -1, 7, 0, 1), NULL);
        due("4 store", x.copy(0, 0, 2, 0, 1), STORE);
        due("4 store, even of none", x.copy(2, 0, 0, 0, 0), STORE);
        due("4 store ahead of place", x.copy(0, -1, 2, 0, 1), STORE);
        due("4 i below", x.copy(0, -1, 1, 0, 1), PLACE);
        due("4 j below", x.copy(0, 0, 1, -1, 1), PLACE);
        due("4 n below", x.copy(0, 0, 1, 0, -1), PLACE);
        due("4 i beyond", x.copy(0, 1, 1, 0, 4), PLACE);
        due("4 j beyond", x.copy(0, 0, 1, 2, 4), PLACE);
        due("4 wraps", x.copy(0, MAX, 1, 0, MAX), PLACE);
        due("4 wraps", x.copy(0, 1, 1, 1, MAX), PLACE);
        due("4 what is found changes nothing", x.colours(0, 0, 0, 3), 15);
    }

    private static void drops() {
        LuggageBelt x = withRows();
        due("5 drop", x.drop(1), 5);
        due("5 missing then", x.drop(1), NULL);
        due("5 missing then", x.set(1, 0, 0), NULL);
        due("5 bad", x.drop(8), BAD);
        due("5 bad", x.drop(-1), BAD);
        due("5 rows", x.count(0), 2);
        x.row(3, 0, 0);
        due("5 none", x.drop(3), 0);
    }

    private static void feeds() {
        LuggageBelt x = new LuggageBelt();
        due("6 bad", x.feed(-1), BAD);
        due("6 bad", x.feed(256), BAD);
        for (int i = 1; i <= 110; i++) {
            due("6 feed", x.feed(i == 110 ? 255 : 0), i);
        }
        due("6 full", x.feed(0), FULL);
        due("6 bad ahead of full", x.feed(256), BAD);
        due("6 bytes", x.count(7), 110);
        due("6 no token", x.hall(), -1000100);
        due("6 empty then", x.count(7), 0);
        due("6 feed anew", x.feed(98), 1);
    }

    private static void hallIs(String text, int answer, int fault) {
        LuggageBelt x = new LuggageBelt();
        due("7 hall " + text, Due.tell(x, text), answer);
        due("8 fault " + text, x.fault(), fault);
        due("7 the tape is empty then", x.count(7), 0);
    }

    private static void halls() {
        hallIs("", -1000100, 1);
        hallIs("b4;c3,3;", 1, 0);
        hallIs("b12;d11,0;", 1, 0);
        hallIs("b04;c00,03;", 1, 0);
        hallIs("b004;c0,0;", -1000101, 1);
        hallIs("b3;c0,0;", -1000101, 2);
        hallIs("b13;c0,0;", -1000101, 2);
        hallIs("b99", -1000101, 2);
        hallIs("b4c0,0;", -1000102, 1);
        hallIs("4;c0,0;", -1000100, 1);
        hallIs("c0,0;", -1000100, 1);
        hallIs("B4;c0,0;", -1000100, 1);
        hallIs("b4;", -1000103, 1);
        hallIs("b4;;", -1000103, 1);
        hallIs("b4;b0,0;", -1000103, 1);
        hallIs("b4;c4,0;", -1000104, 2);
        hallIs("b10;c10,0;", -1000105, 2);
        hallIs("b4;c,0;", -1000104, 1);
        hallIs("b4;c0;0;", -1000105, 1);
        hallIs("b4;c0,4;", -1000106, 2);
        hallIs("b4;c0,04;", -1000106, 2);
        hallIs("b4;c0,0,", -1000107, 1);
        hallIs("b4;c0,0", -1000107, 1);
        hallIs("b4;c0,", -1000106, 1);
        hallIs("b4;cc0,0;", -1000104, 1);
        hallIs("b4;c0,0;x", -1000108, 1);
        hallIs("b4;c0,0;9", -1000108, 1);
        hallIs("b4;c0,0;c1,0;s2,0;h3,0;l0,0;d1,0;", 6, 0);
        hallIs("b4;c0,0;c1,0;s2,0;h3,0;l0,0;d1,0;c", -1000133, 3);
        hallIs("b4;c0,0;c1,0;s2,0;h3,0;l0,0;d1,0;x", -1000133, 1);
        hallIs("b4;c0,0;c1,0;s2,0;h3,0;l0,0;d1,0;b", -1000133, 1);
        hallIs("b4;c0,0;c1,0;s2,0;h3,0;l0,0;d9,0;c", -1000129, 2);
        hallIs("b4;c1000,0;", -1000104, 1);
        hallIs("b4;c0,123", -1000106, 1);
        hallIs("b 4;", -1000101, 1);
        hallIs("b4;c0,0; ", -1000108, 1);

        LuggageBelt x = Due.belt(ROBBERY);
        x.ticks(2);
        due("7 fault", Due.tell(x, "b5;c9,0;"), -1000104);
        due("8 latest", x.fault(), 2);
        due("7 all stays", x.count(3), 2);
        due("7 all stays", x.count(2), 6);
        due("7 all stays", x.stand(5), 2);
        due("7 acts stay", x.count(6), 2);
        due("7 in place of the one before", Due.tell(x, "b5;c4,0;"), 1);
        due("8 stays the latest", x.fault(), 2);
        due("7 tick", x.count(3), 0);
        due("7 places", x.count(2), 5);
        due("7 waits", x.stand(4), 1);
        due("7 in the cart", x.stand(1), 1);
        due("7 saw", x.count(5), 0);
        due("7 nothing to undo", x.undo(), STATE);
        LuggageBelt y = Due.belt("b7;d0,0;d1,1;");
        y.all(60, 0);
        y.sleep(0, 60, 10, 0);
        due("7 what was foretold leaves nothing", Due.tell(y, "b7;c1,0;c6,1;"), 2);
        due("7 tick", y.count(3), 0);
        due("7 saw", y.count(5), 0);
        due("7 the belt begins anew", y.ticks(2), 1);
        due("7 bag 1 falls", y.place(0), 1);
        due("7 bag 0 is taken", y.place(1), NONE);
        y.all(60, 0);
        due("7 what was foretold leaves nothing", Due.tell(y, "b7;l1,0;"), 1);
        due("7 saw", y.count(5), 0);
        due("7 the first time", y.ticks(2), 0);
    }

    private static void undos() {
        LuggageBelt x = Due.belt("b6;c1,0;l4,2;");
        due("9 none", x.undo(), STATE);
        due("9 ticks", x.ticks(2), 1);
        due("9 move", x.move(1, 0), 4);
        due("9 paint", x.paint(1, 3), 2);
        due("9 back", x.back(0), 0);
        due("9 turn", x.turn(), 1);
        due("9 acts", x.count(6), 6);
        due("9 place", x.place(1), 1);
        due("9 turn undone", x.undo(), 5);
        due("9 place", x.place(0), 1);
        due("9 back undone", x.undo(), 4);
        due("9 gone again", x.traveller(0, 2), 0);
        due("9 saw again", x.traveller(0, 3), 1);
        due("9 taken again", x.bag(0, 1), 30);
        due("9 paint undone", x.undo(), 3);
        due("9 colour", x.bag(1, 0), 2);
        due("9 move undone", x.undo(), 2);
        due("9 stand", x.traveller(1, 0), 4);
        due("9 tick undone", x.undo(), 1);
        due("9 waits", x.stand(4), 3);
        due("9 on the belt", x.place(0), 0);
        due("9 saw none", x.count(5), 0);
        due("9 tick", x.count(3), 1);
        due("9 tick undone", x.undo(), 0);
        due("9 cart", x.stand(1), 3);
        due("9 the belt is empty", x.place(0), NONE);
        due("9 none", x.undo(), STATE);
        x.ticks(1);
        x.turn();
        x.paint(0, 1);
        x.undo();
        due("9 turned yet", x.place(1), 0);
        due("9 falls at the chute", x.all(1, 0), 0);
        x.ticks(1);
        due("9 bag 1 there", x.place(0), 1);
        due("9 bag 0 one on", x.place(2), 0);
        x.undo();
        x.undo();
        x.undo();
        due("9 at the beginning", x.count(3), 0);

        x.ticks(24);
        due("9 24 kept", x.count(6), 24);
        x.turn();
        due("9 the oldest forgotten", x.count(6), 24);
        for (int left = 23; left >= 0; left--) {
            due("9 undo", x.undo(), left);
        }
        due("9 none", x.undo(), STATE);
        due("9 tick", x.count(3), 1);
    }

    private static void ticks() {
        due("10 no hall, ahead of bad", new LuggageBelt().ticks(0), STATE);
        LuggageBelt x = Due.belt(ALL_KINDS);
        due("10 none", x.ticks(0), BAD);
        due("10 above", x.ticks(25), BAD);
        due("10 below", x.ticks(MIN), BAD);
        due("10 refused: nothing changes", x.count(3), 0);
        // Bag k falls in tick k + 1 and is at place p in tick k + 1 + p.
        due("10 the calm one", x.ticks(3), 1);
        due("10 not yet", x.ticks(3), 1);
        due("10 the shy one", x.ticks(1), 3);
        due("10 not yet", x.ticks(3), 3);
        due("10 the hasty one", x.ticks(1), 7);
        due("10 the slow one saw it once", x.ticks(3), 7);
        due("10 saw", x.traveller(3, 3), 1);
        due("10 the dozy one saw it once", x.traveller(4, 3), 1);
        due("10 the slow one", x.ticks(12), 15);
        due("10 saw it twice", x.traveller(3, 3), 2);
        due("10 the dozy one", x.ticks(3), 31);
        due("10 saw it thrice", x.traveller(4, 3), 3);
        due("10 acts", x.count(6), 24);

        shyOnes();
        hastyOnes();
        chute();
        fullTicks();
    }

    private static void shyOnes() {
        due("10 shy, the other beside", Due.belt("b5;s2,0;l3,0;").ticks(10), 2);
        due("10 shy, beside round the end", Due.belt("b5;s0,0;l4,0;").all(6, 0), 0);
        due("10 shy, beside round the end", Due.belt("b5;s4,0;l0,0;").all(5, 0), 0);
        due("10 shy, at its stand", Due.belt("b5;s2,0;l2,0;").all(3, 0), 0);
        due("10 shy, two apart", Due.belt("b5;s2,0;l4,0;").all(3, 0), 1);
        due("10 shy, once the other is gone", Due.belt("b5;s2,0;c1,0;").all(8, 0), 3);
        due("10 shy, not before", Due.belt("b5;s2,0;c1,0;").all(7, 0), 2);
        LuggageBelt x = Due.belt("b5;s2,0;l3,0;");
        x.ticks(3);
        due("10 shy, yet it saw it", x.traveller(0, 3), 1);
        // By numbers: the calm one with the lesser number is gone when the shy one looks.
        LuggageBelt y = Due.belt("b4;c1,0;s0,0;");
        due("10 in the same tick", y.ticks(2), 3);
        LuggageBelt z = Due.belt("b4;s1,0;c0,0;");
        due("10 the other one later", z.ticks(2), 2);
    }

    private static void hastyOnes() {
        LuggageBelt x = Due.belt(ROBBERY);
        due("10 hasty", x.ticks(2), 2);
        due("10 another's", x.traveller(1, 2), 0);
        due("10 it did not see its own", x.traveller(1, 3), 0);
        due("10 another colour", Due.belt("b6;c3,2;h1,1;").all(2, 0), 0);
        due("10 another colour", Due.belt("b6;c3,2;h1,1;").all(4, 0), 3);
        LuggageBelt y = Due.belt("b6;c3,2;h1,1;");
        y.paint(0, 1);
        due("10 as painted", y.ticks(2), 2);
        LuggageBelt z = Due.belt("b6;c3,2;h1,1;");
        z.paint(1, 2);
        due("10 as its own is painted", z.ticks(2), 2);
        // Two at one stand: the lesser number looks first.
        due("10 by numbers", Due.belt("b6;h2,1;h2,1;").with(0, 3, 0), 0);
        due("10 by numbers", Due.belt("b6;h2,1;h2,1;").with(1, 4, 0), 1);
    }

    private static void chute() {
        // Bag 0 comes round to place 0 in tick 5, so the last bag falls in tick 7 only.
        LuggageBelt x = Due.belt("b4;d3,0;d2,0;d1,0;d0,0;d0,0;d0,0;");
        x.ticks(4);
        due("10 the belt is full", x.stand(2), 15);
        x.ticks(4);
        due("10 nothing falls", x.stand(1), 48);
        x.move(3, 3);
        due("10 bag 3 at 0", x.place(0), 3);
        LuggageBelt y = Due.belt("b4;c0,0;c1,0;");
        y.ticks(1);
        due("10 taken as it falls", y.stand(3), 1);
        due("10 back in the cart, ahead by its number", y.back(0), 0);
        y.ticks(1);
        due("10 it falls first", y.stand(3), 1);
        due("10 bag 1 waits", y.stand(1), 2);
    }

    private static void fullTicks() {
        LuggageBelt x = Due.belt("b4;d0,0;");
        x.move(0, 3);
        for (int i = 0; i < 41; i++) {
            x.ticks(24);
        }
        due("10 984", x.count(3), 984);
        due("10 full", x.ticks(16), FULL);
        due("10 bad ahead of full", x.ticks(25), BAD);
        due("10 999", x.ticks(15), 1);
        due("10 tick", x.count(3), 999);
        due("10 full", x.ticks(1), FULL);
        x.undo();
        due("10 one more", x.ticks(1), 1);
        // A shy one beside a robbed one sees its own for ever: 99 at most.
        LuggageBelt y = Due.belt("b4;s0,0;s1,0;");
        for (int i = 0; i < 17; i++) {
            y.ticks(24);
        }
        due("10 99 at most", y.traveller(0, 3), 99);
        due("10 99 at most", y.traveller(1, 3), 99);
        due("10 together", y.count(5), 198);
        due("20 99 at most", y.with(0, 60, 1), 99);
    }

    private static void moves() {
        due("11 no hall", new LuggageBelt().move(0, 0), BAD);
        LuggageBelt x = Due.belt(ROBBERY);
        due("11 traveller", x.move(2, 0), BAD);
        due("11 traveller", x.move(-1, 0), BAD);
        due("11 place", x.move(0, 6), BAD);
        due("11 place", x.move(0, -1), BAD);
        due("11 stands there", x.move(0, 3), STATE);
        due("11 refused: no act", x.count(6), 0);
        due("11 move", x.move(0, 5), 3);
        due("11 stands", x.traveller(0, 0), 5);
        due("11 an act", x.count(6), 1);
        x.ticks(2);
        due("11 gone", x.move(1, 0), STATE);
        due("11 bad ahead of gone", x.move(1, 6), BAD);
        LuggageBelt y = Due.belt("b4;l0,0;");
        y.ticks(1);
        y.move(0, 1);
        due("11 what it saw stays", y.traveller(0, 3), 1);
        due("11 the second time", y.ticks(1), 1);
    }

    private static void paints() {
        due("12 no hall", new LuggageBelt().paint(0, 0), BAD);
        LuggageBelt x = Due.belt(ROBBERY);
        due("12 bag", x.paint(2, 0), BAD);
        due("12 bag", x.paint(-1, 0), BAD);
        due("12 colour", x.paint(0, 4), BAD);
        due("12 colour", x.paint(0, -1), BAD);
        due("12 refused: no act", x.count(6), 0);
        due("12 paint", x.paint(0, 3), 1);
        due("12 colour", x.bag(0, 0), 3);
        due("12 the same, an act too", x.paint(0, 3), 3);
        due("12 acts", x.count(6), 2);
        x.ticks(4);
        due("12 taken ones too", x.paint(1, 2), 1);
    }

    private static void backs() {
        due("13 no hall", new LuggageBelt().back(0), BAD);
        LuggageBelt x = Due.belt(ROBBERY);
        due("13 bad", x.back(2), BAD);
        due("13 bad", x.back(-1), BAD);
        due("13 waits", x.back(1), STATE);
        x.ticks(4);
        due("13 which it had", x.back(1), 0);
        due("13 waits", x.traveller(1, 1), 1);
        due("13 with none", x.traveller(1, 2), NONE);
        due("13 in the cart", x.bag(0, 1), 20);
        due("13 nobody robbed", x.stand(6), 0);
        due("13 its stand stays", x.traveller(1, 0), 1);
        LuggageBelt y = Due.belt("b4;l0,0;");
        y.ticks(5);
        due("13 saw", y.traveller(0, 3), 2);
        due("13 back", y.back(0), 0);
        due("13 saw none", y.traveller(0, 3), 0);
        due("13 tick stays", y.count(3), 5);
        due("13 twice anew", y.all(4, 0), 0);
        due("13 twice anew", y.all(5, 0), 1);
    }

    private static void turns() {
        due("14 no hall", new LuggageBelt().turn(), STATE);
        LuggageBelt x = Due.belt("b4;c1,0;l3,1;");
        due("14 none on it", x.turn(), 0);
        due("14 an act", x.count(6), 1);
        x.ticks(1);
        due("14 one", x.turn(), 1);
        due("14 moves", x.place(1), 0);
        due("14 nothing else", x.stand(4), 3);
        due("14 nothing falls", x.stand(1), 2);
        due("14 nor is it seen", x.count(5), 0);
        due("14 no tick", x.count(3), 1);
        x.turn();
        x.turn();
        due("14 goes round", x.bag(0, 1), 3);
        x.turn();
        due("14 goes round", x.bag(0, 1), 0);
    }

    private static void travellersAndBags() {
        due("15 no hall", new LuggageBelt().traveller(0, 0), BAD);
        due("16 no hall", new LuggageBelt().bag(0, 0), BAD);
        LuggageBelt x = Due.belt(ROBBERY);
        x.ticks(3);
        int[][] due = {{3, 1, NONE, 0, 0, 1}, {1, 0, 0, 1, 1, 0}};
        // The hasty one is gone when its own comes by, so it never saw it.
        due[1][3] = 0;
        for (int t = 0; t < 2; t++) {
            for (int what = 0; what < 6; what++) {
                due("15 traveller " + t + " " + what, x.traveller(t, what), due[t][what]);
            }
        }
        due("15 what", x.traveller(0, 6), BAD);
        due("15 what", x.traveller(0, -1), BAD);
        due("15 traveller", x.traveller(2, 0), BAD);
        due("15 traveller", x.traveller(-1, 0), BAD);
        due("16 taken", x.bag(0, 1), 31);
        due("16 on the belt", x.bag(1, 1), 1);
        due("16 colour", x.bag(1, 0), 1);
        due("16 what", x.bag(0, 2), BAD);
        due("16 what", x.bag(0, -1), BAD);
        due("16 bag", x.bag(2, 0), BAD);
        due("16 bag", x.bag(-1, 0), BAD);
        due("16 cart", Due.belt(ROBBERY).bag(1, 1), 20);
        due("15 not wrong with its own", with("b4;c0,0;", 1).traveller(0, 4), 0);
        due("15 not robbed when gone", with("b4;c0,0;", 1).traveller(0, 5), 0);
    }

    private static LuggageBelt with(String text, int ticks) {
        LuggageBelt x = Due.belt(text);
        x.ticks(ticks);
        return x;
    }

    private static void stands() {
        due("17 no hall, ahead of bad", new LuggageBelt().stand(9), STATE);
        LuggageBelt x = with("b6;c3,1;h1,1;c5,0;c5,0;", 3);
        int[] due = {6, 8, 6, 1, 13, 2, 1};
        for (int what = 0; what < 7; what++) {
            due("17 stand " + what, x.stand(what), due[what]);
        }
        due("17 bad", x.stand(7), BAD);
        due("17 bad", x.stand(-1), BAD);
        due("18 no hall", new LuggageBelt().place(0), BAD);
        int[] places = {2, 1, NONE, NONE, NONE, NONE};
        for (int p = 0; p < 6; p++) {
            due("18 place " + p, x.place(p), places[p]);
        }
        due("18 bad", x.place(6), BAD);
        due("18 bad", x.place(-1), BAD);
    }

    private static void foretold() {
        LuggageBelt none = new LuggageBelt();
        due("19 no hall", none.ahead(0, 0), BAD);
        due("20 no hall", none.with(0, 0, 0), BAD);
        due("21 no hall, ahead of bad", none.all(99, 0), STATE);
        due("22 no hall", none.when(0), BAD);
        due("23 no hall", none.empty(), STATE);

        LuggageBelt x = Due.belt("b4;c3,0;d1,1;");
        int[] bag0 = {20, 0, 1, 2, 30, 30};
        int[] bag1 = {20, 20, 0, 1, 2, 3, 0, 1, 2, 3, 0, 31};
        for (int n = 0; n < bag0.length; n++) {
            due("19 ahead " + n, x.ahead(0, n), bag0[n]);
        }
        for (int n = 0; n < bag1.length; n++) {
            due("19 ahead " + n, x.ahead(1, n), bag1[n]);
        }
        due("19 60", x.ahead(1, 60), 31);
        due("19 61", x.ahead(1, 61), BAD);
        due("19 -1", x.ahead(1, -1), BAD);
        due("19 bag", x.ahead(2, 0), BAD);
        due("19 nothing changes", x.count(3), 0);

        due("20 now", x.with(1, 0, 0), NONE);
        due("20 now", x.with(1, 0, 1), 0);
        due("20 waits", x.with(1, 10, 0), NONE);
        due("20 gone", x.with(1, 11, 0), 1);
        due("20 saw", x.with(1, 10, 1), 2);
        due("20 saw", x.with(1, 60, 1), 3);
        due("20 what", x.with(1, 0, 2), BAD);
        due("20 what", x.with(1, 0, -1), BAD);
        due("20 n", x.with(1, 61, 0), BAD);
        due("20 n", x.with(1, -1, 0), BAD);
        due("20 traveller", x.with(2, 0, 0), BAD);

        LuggageBelt y = Due.belt(ROBBERY);
        due("21 gone", y.all(1, 0), 0);
        due("21 gone", y.all(2, 0), 2);
        due("21 wrong", y.all(2, 1), 2);
        due("21 robbed", y.all(2, 2), 1);
        due("21 0", y.all(0, 0), 0);
        due("21 60", y.all(60, 2), 1);
        due("21 61", y.all(61, 0), BAD);
        due("21 -1", y.all(-1, 0), BAD);
        due("21 what", y.all(0, 3), BAD);
        due("21 what", y.all(0, -1), BAD);

        due("22 when", x.when(0), 4);
        due("22 when", x.when(1), 11);
        due("22 never", y.when(0), NONE);
        due("22 bad", x.when(2), BAD);
        due("22 bad", x.when(-1), BAD);
        due("23 empty", x.empty(), 11);
        due("23 never", y.empty(), NONE);
        x.ticks(11);
        due("22 now", x.when(1), 0);
        due("23 now", x.empty(), 0);
        // Its own is on place 11 first in tick 12, then every 12 ticks: the third time in tick 36.
        due("22 late", Due.belt("b12;d11,0;").when(0), 36);
        // With five ahead of it, bag 5 of a full round is seen at 11 in ticks 17, 29, 41.
        due("22 late", Due.belt("b12;c0,0;c0,0;c0,0;c0,0;c0,0;d11,0;").when(5), 41);
    }

    private static void best() {
        due("24 no hall", new LuggageBelt().best(0, 1, 0), BAD);
        LuggageBelt x = Due.belt("b6;c4,0;l3,0;h2,1;");
        due("24 where it falls", x.best(0, 60, 0), 0);
        due("24 behind", x.best(0, 60, 1), 1);
        due("24 the slow one: first at any, the least", x.best(1, 60, 0), 0);
        due("24 it falls in tick 2, then in tick 8", x.best(1, 60, 1), 8);
        due("24 n at most", x.best(1, 8, 1), 8);
        due("24 n at most", x.best(1, 7, 1), NONE);
        due("24 n at most", x.best(1, 7, 0), NONE);
        due("24 the hasty one", x.best(2, 3, 0), 0);
        due("24 the hasty one", x.best(2, 3, 1), 3);
        due("24 n", x.best(0, 0, 0), BAD);
        due("24 n", x.best(0, 61, 0), BAD);
        due("24 what", x.best(0, 1, 2), BAD);
        due("24 what", x.best(0, 1, -1), BAD);
        due("24 traveller", x.best(3, 1, 0), BAD);
        due("24 nothing changes", x.traveller(0, 0), 4);
        x.ticks(2);
        LuggageBelt late = Due.belt("b6;d0,0;");
        late.ticks(5);
        late.undo();
        late.turn();
        due("24 at 4 now", late.bag(0, 1), 4);
        due("24 dozy, saw it once", late.best(0, 60, 1), 7);
        due("24 soonest at the next place", late.best(0, 60, 0), 5);
        due("24 it passed 0", x.best(0, 60, 0), 2);
        due("24 the next place", x.best(0, 60, 1), 1);
        x.move(0, 2);
        x.ticks(1);
        due("24 gone", x.best(0, 1, 0), STATE);
        due("24 bad ahead of gone", x.best(0, 0, 0), BAD);
        // At 3 the calm one with the lesser number takes its own, so the hasty one has its own there.
        due("24 behind the calm one", Due.belt("b4;c3,0;h2,0;").best(1, 9, 0), 3);
        due("24 behind the calm one", Due.belt("b4;c3,0;h2,0;").best(1, 9, 1), 5);
        // A hasty one that takes another's bag is not gone with its own: bag 0 comes first everywhere.
        LuggageBelt y = Due.belt("b4;l3,0;h2,0;");
        due("24 not with another's", y.best(1, 9, 0), NONE);
        y.ticks(3);
        due("24 robbed, never", y.best(0, 60, 0), NONE);
        due("24 robbed, never", y.best(0, 60, 1), NONE);
        // A shy one goes where nobody stands beside.
        due("24 shy", Due.belt("b6;s0,0;d0,1;").best(0, 60, 0), 2);
        due("24 shy", Due.belt("b6;s0,0;d0,1;").best(0, 60, 1), 3);
    }

    private static void orderIs(String what, LuggageBelt x, int n, int... due) {
        for (int k = -1; k < due.length - 1; k++) {
            due("25 " + what + " " + k, x.order(n, k), due[k + 1]);
        }
        due("25 " + what + ", not so many", x.order(n, due.length - 1), NONE);
    }

    private static void order() {
        due("25 no hall, ahead of bad", new LuggageBelt().order(0, -2), STATE);
        LuggageBelt x = Due.belt("b6;c4,0;c3,1;c0,2;");
        due("25 n", x.order(0, 0), BAD);
        due("25 n", x.order(41, 0), BAD);
        due("25 k", x.order(1, -2), BAD);
        due("25 k", x.order(1, MIN), BAD);
        due("25 k", x.order(1, MAX), NONE);
        // In one tick only the bag that falls can go: the one who stands at the chute.
        orderIs("one tick", x, 1, 1, 2, 0, 1);
        // In 5 ticks: bag 0 must fall in tick 1; bag 2 is taken at once; bag 1 must fall in tick 2 at the latest.
        orderIs("five ticks", x, 5, 3, 0, 1, 2);
        orderIs("one tick again", x, 1, 1, 2, 0, 1);
        orderIs("40 ticks", x, 40, 3, 0, 1, 2);
        due("25 nothing changes", x.stand(1), 7);
        // What was found does not outlast the hall for which it was.
        LuggageBelt y = Due.belt("b6;c3,1;h1,1;");
        orderIs("one colour", y, 9, 2, 1, 0);
        y.paint(0, 2);
        orderIs("painted", y, 9, 2, 0, 1);
        y.undo();
        orderIs("undone", y, 9, 2, 1, 0);
        y.move(1, 3);
        orderIs("elsewhere, behind the calm one", y, 9, 2, 0, 1);
        due("7 another hall", Due.tell(y, "b6;c3,1;h1,1;c0,0;"), 3);
        orderIs("another hall", y, 9, 3, 1, 0, 2);
        // Of 4 places 3 is beside 0, of 5 it is not.
        LuggageBelt z = Due.belt("b4;s0,0;d3,1;");
        orderIs("shy, one beside", z, 1, 0, 1, 0);
        due("7 one place more", Due.tell(z, "b5;s0,0;d3,1;"), 2);
        orderIs("shy, nobody beside", z, 1, 1, 0, 1);
        // Traveller 1 takes what is of its colour, so its own must come first.
        orderIs("hasty", Due.belt("b6;c3,1;h1,1;"), 9, 2, 1, 0);
        // Both orders let both go within 20 ticks; seen together is the same; so the first by numbers.
        orderIs("first", Due.belt("b6;c3,1;c1,1;"), 20, 2, 0, 1);
        // In two ticks two of five fall; the others come behind them, by numbers.
        orderIs("one falls, between the others by its number", Due.belt("b6;c3,0;c0,1;c4,2;"), 1, 1, 1, 0, 2);
        orderIs("two fall", Due.belt("b6;c5,0;c1,1;c5,2;c0,3;c5,0;"), 2, 2, 1, 3, 0, 2, 4);
        leastSeen();
        bagsNotInTheCart();
    }

    private static void leastSeen() {
        // The shy one at 1 beside the calm one at 0: if bag 1 falls first, the calm one is gone when bag 0 comes by;
        // if bag 0 falls first, it passes the shy one while the calm one is gone too. In order 0, 1: tick 1 bag 0 at 0,
        // tick 2 bag 0 at 1 and bag 1 at 0: the shy one looks first, sees its own in vain. In order 1, 0: it sees once.
        orderIs("least seen", Due.belt("b4;s1,0;c0,1;"), 20, 2, 1, 0);
    }

    private static void bagsNotInTheCart() {
        // Bag 0 is on the belt, 1 and 2 in the cart: 2 is to fall ahead of 1, bag 0 comes first by numbers.
        LuggageBelt x = Due.belt("b6;d4,0;c3,1;c0,2;");
        x.ticks(1);
        orderIs("of the rest", x, 1, 1, 0, 2, 1);
        // Bag 2 is taken and 1 to fall ahead of 0: 2 stands where the first order by numbers has it.
        LuggageBelt y = Due.belt("b6;c3,1;h1,1;c0,2;");
        y.ticks(4);
        y.back(1);
        due("25 bag 0 in the cart", y.bag(0, 1), 20);
        due("25 bag 2 taken", y.bag(2, 1), 32);
        due("25 bag 1 on the belt", y.bag(1, 1), 2);
        // Bag 0 in the cart would be robbed again in 2 ticks; its own comes by at place 1 later: one order is all there is.
        orderIs("one in the cart", y, 9, 1, 0, 1, 2);
    }

    private static void marks() {
        due("26 no hall, ahead of bad", new LuggageBelt().marks(0, 9), STATE);
        LuggageBelt x = Due.belt(ROBBERY);
        due("26 n", x.marks(0, 0), BAD);
        due("26 n", x.marks(41, 0), BAD);
        due("26 what", x.marks(1, 2), BAD);
        due("26 what", x.marks(1, -1), BAD);
        due("26 one tick: nobody is wrong", x.marks(1, 0), 0);
        due("26 none", x.marks(1, 1), 0);
        due("26 one", x.marks(40, 0), 1);
        due("26 the least", x.marks(40, 1), 1);
        due("26 nothing changes", x.bag(0, 0), 1);
        x.ticks(2);
        due("26 who is wrong now does not count", x.marks(40, 0), 0);
        // The hasty one at 1 meets bags 0 and 1 of its colour ahead of its own: its own is to be marked.
        LuggageBelt y = Due.belt("b8;c5,1;c6,1;h1,1;");
        due("26 its own", y.marks(40, 0), 1);
        due("26 its own", y.marks(40, 1), 4);
        // Bags 0 and 1 come by at 1 ahead of bag 2, bag 0 at 2 ahead of bag 1: one mark leaves one of both wrong.
        LuggageBelt z = Due.belt("b8;c6,1;h2,1;h1,1;");
        due("26 two, 0 and 1, or 0 and 2, or 1 and 2", z.marks(40, 0), 2);
        due("26 the least of two", z.marks(40, 1), 3);
    }

    private static void sets() {
        due("27 no hall, ahead of bad", new LuggageBelt().sets(-1, 9), STATE);
        LuggageBelt x = Due.belt("b4;d0,0;d1,0;d2,0;");
        due("27 v", x.sets(-1, 0), BAD);
        due("27 v", x.sets(100, 0), BAD);
        due("27 what", x.sets(0, 3), BAD);
        due("27 what", x.sets(0, -1), BAD);
        due("27 all sets", x.sets(0, 0), 8);
        due("27 in all", x.sets(0, 1), 0);
        due("27 in any", x.sets(0, 2), 7);
        due("27 none", x.sets(1, 0), 0);
        due("27 none", x.sets(1, 1), 0);
        due("27 none", x.sets(1, 2), 0);
        due("27 v 99", x.sets(99, 0), 0);
        // Bag 0 is seen at 0 in ticks 1, 5, 9; bag 1 at 1 in 3, 7, 11; bag 2 at 2 in 5, 9, 13.
        x.ticks(5);
        due("27 saw 2, 1, 1", x.count(5), 4);
        due("27 two: {0}, {1, 2}", x.sets(2, 0), 2);
        due("27 in all", x.sets(2, 1), 0);
        due("27 in any", x.sets(2, 2), 7);
        due("27 three: {0, 1}, {0, 2}", x.sets(3, 0), 2);
        due("27 in all", x.sets(3, 1), 1);
        due("27 in any", x.sets(3, 2), 7);
        due("27 one: {1}, {2}", x.sets(1, 2), 6);
        x.ticks(4);
        due("27 0 is gone", x.stand(4), 6);
        due("27 of those that wait: 2 and 2", x.sets(4, 0), 1);
        due("27 in all", x.sets(4, 1), 6);
        due("27 not with 0", x.sets(5, 0), 0);
    }

    private static void share() {
        due("28 no hall", new LuggageBelt().share(0, 0), BAD);
        LuggageBelt x = Due.belt("b4;d0,0;d3,0;d1,0;d1,0;");
        due("28 none saw any", x.share(0, 999), 0);
        // In 5 ticks: bag 0 at 0 in 1 and 5; bag 1 at 3 in 5; bag 2 at 1 in 4; bag 3 at 1 in 5.
        x.ticks(5);
        due("28 saw", x.traveller(0, 3), 2);
        due("28 saw", x.traveller(1, 3), 1);
        due("28 saw", x.traveller(2, 3), 1);
        due("28 saw", x.traveller(3, 3), 1);
        due("28 of 10", x.share(0, 10), 4);
        due("28 of 10", x.share(3, 10), 2);
        // Of 13: 5, 2, 2, 2 and 2 over.
        due("28 of 13", x.share(0, 13), 6);
        due("28 of 13", x.share(1, 13), 3);
        due("28 of 13", x.share(2, 13), 2);
        due("28 of 13", x.share(3, 13), 2);
        due("28 of 0", x.share(0, 0), 0);
        due("28 of 999", x.share(0, 999), 400);
        due("28 n", x.share(0, 1000), BAD);
        due("28 n", x.share(0, -1), BAD);
        due("28 traveller", x.share(4, 0), BAD);
        // The first saw none: what is over goes to those that saw any, gone or not.
        LuggageBelt y = Due.belt("b6;c5,0;c0,0;c0,0;");
        y.ticks(3);
        due("28 gone", y.stand(4), 1);
        due("28 saw none", y.share(0, 5), 0);
        due("28 all to the only one that saw any", with("b4;c2,0;c0,0;", 2).share(1, 7), 7);
        due("28 over", y.share(1, 5), 3);
        due("28 cut", y.share(2, 5), 2);
        // Six who saw their own once each: 3 each, 2 over.
        LuggageBelt z = with("b6;c0,0;c0,0;c0,0;c0,0;c0,0;c0,0;", 6);
        int[] of20 = {4, 4, 3, 3, 3, 3};
        for (int one = 0; one < 6; one++) {
            due("28 of 20 among six: " + one, z.share(one, 20), of20[one]);
        }
    }

    private static void byTurns() {
        due("29 no hall, ahead of bad", new LuggageBelt().byTurns(-1, 0), STATE);
        LuggageBelt x = Due.belt("b8;c4,0;c1,1;");
        due("29 n", x.byTurns(-1, 1), BAD);
        due("29 n", x.byTurns(5, 1), BAD);
        due("29 m", x.byTurns(0, 0), BAD);
        due("29 m", x.byTurns(0, 21), BAD);
        due("29 m", x.byTurns(4, 1), 0);
        due("29 nothing on it", x.byTurns(4, 3), 1);
        // Behind one tick bag 0 is at 0: traveller 0 has it at 4 behind 4 more, or behind 3 if it is turned once.
        x.ticks(1);
        due("29 no turn", x.byTurns(0, 3), 1);
        due("29 no turn", x.byTurns(0, 4), 2);
        due("29 the one turns", x.byTurns(1, 3), 2);
        due("29 the other one turns it back", x.byTurns(2, 3), 1);
        due("29 the one turns again", x.byTurns(3, 3), 2);
        due("29 and back", x.byTurns(4, 3), 1);
        due("29 two would want two more", x.byTurns(3, 2), 1);
        due("29 nothing changes", x.bag(0, 1), 0);
        // Bag 0 is at 2, one ahead of its traveller: a turn of the one takes it past, one of the other leaves it short.
        LuggageBelt y = with("b12;c5,0;", 3);
        due("29 as it is", y.byTurns(0, 3), 1);
        due("29 the other one only", y.byTurns(2, 2), 0);
        due("29 what the one does the other undoes", y.byTurns(2, 3), 1);
        due("29 the one is last", y.byTurns(3, 2), 1);
        due("29 the other one is last", y.byTurns(4, 2), 0);
        // At 4 now: a turn takes it to 5 unseen, and then a round is too long. So the one lets it be, the other one turns.
        LuggageBelt z = with("b12;c5,0;", 5);
        due("29 let it be", z.byTurns(1, 1), 1);
        due("29 turned the other way", z.byTurns(2, 1), 0);
        due("29 the one may mend it", z.byTurns(3, 1), 1);
        due("29 those that are gone now, too", with("b4;c0,0;", 1).byTurns(4, 20), 1);
    }

    /** Told: bag 0 of a calm one at 3 of 6 places, that of a hasty one at 2 behind it. */
    private static LuggageBelt told(int... items) {
        LuggageBelt x = Due.belt("b6;c3,1;h2,1;");
        x.row(0, 2, items.length + 1);
        x.set(0, 0, 99);
        for (int i = 0; i < items.length; i++) {
            x.set(0, i + 1, items[i]);
        }
        return x;
    }

    private static void who() {
        due("30 no hall", new LuggageBelt().who(0, 0, 0, 0, 0, 1), BAD);
        LuggageBelt x = told(0, 1, 31, 31);
        due("30 only a hasty one at 2", x.who(1, 0, 0, 0, 1, 4), 1 << 3);
        due("30 stands of the hasty one", x.who(1, 1, 0, 0, 1, 4), 1 << 2);
        due("30 kinds of the other one: all but hasty would do, hasty too", x.who(0, 0, 0, 0, 1, 4), 62);
        // At 0, 1 the calm one has it sooner, and at 2 by its lesser number; at 3, 4, 5 it is robbed.
        due("30 stands of the other one", x.who(0, 1, 0, 0, 1, 4), 56);
        due("30 the first one only: at 0 it is taken", x.who(0, 1, 0, 0, 1, 1), 62);
        due("30 nothing fits", x.who(1, 0, 0, 0, 0, 2), 0);
        due("30 12", x.who(1, 0, 0, 0, 0, 12), PLACE);
        due("30 traveller", x.who(2, 0, 0, 0, 0, 1), BAD);
        due("30 which", x.who(0, 2, 0, 0, 0, 1), BAD);
        due("30 which", x.who(0, -1, 0, 0, 0, 1), BAD);
        due("30 bag", x.who(0, 0, 2, 0, 0, 1), BAD);
        due("30 row", x.who(0, 0, 0, 8, 0, 1), BAD);
        due("30 row", x.who(0, 0, 0, -1, 0, 1), BAD);
        due("30 n", x.who(0, 0, 0, 0, 0, 0), BAD);
        due("30 n", x.who(0, 0, 0, 0, 0, 13), BAD);
        due("30 null", x.who(0, 0, 0, 1, 9, 1), NULL);
        due("30 bad ahead of null", x.who(0, 0, 0, 1, 9, 13), BAD);
        due("30 place", x.who(0, 0, 0, 0, -1, 1), PLACE);
        due("30 place", x.who(0, 0, 0, 0, 4, 2), PLACE);
        due("30 place", x.who(0, 0, 0, 0, MAX, 12), PLACE);
        due("30 nothing changes", x.kind(1), 3);
        // A bag that passes a slow one once: by a calm one it would be taken.
        LuggageBelt y = Due.belt("b4;l1,0;");
        y.row(3, 0, 12);
        int[] rounds = {0, 1, 2, 3, 0, 30, 30, 30, 30, 30, 30, 30};
        for (int i = 0; i < 12; i++) {
            y.set(3, i, rounds[i]);
        }
        due("30 slow", y.who(0, 0, 0, 3, 0, 12), 1 << 4);
        due("30 slow or dozy", y.who(0, 0, 0, 3, 0, 5), 1 << 4 | 1 << 5);
        due("30 where a slow one stood", y.who(0, 1, 0, 3, 0, 12), 1 << 1);
        due("30 of one that is gone: all or none", gone(y).who(0, 0, 0, 3, 5, 3), 62);
        due("30 of one that is gone: all or none", y.who(0, 1, 0, 3, 5, 3), 15);
        due("30 of one that is gone: all or none", y.who(0, 1, 0, 3, 4, 3), 0);
    }

    private static LuggageBelt gone(LuggageBelt x) {
        x.ticks(6);
        return x;
    }

    private static void colours() {
        due("31 no hall", new LuggageBelt().colours(0, 0, 0, 1), BAD);
        LuggageBelt x = told(0, 1, 31, 31);
        due("31 the colour of the hasty one's", x.colours(0, 0, 1, 4), 1 << 1);
        due("31 each, as far as that", x.colours(0, 0, 1, 2), 15);
        due("31 none", x.colours(0, 0, 0, 1), 0);
        LuggageBelt y = told(0, 1, 2, 30);
        due("31 all but that", y.colours(0, 0, 1, 4), 13);
        LuggageBelt z = told(20, 0, 1, 31);
        due("31 its own, of all but that of the other one", z.colours(1, 0, 1, 4), 13);
        due("31 bag", x.colours(2, 0, 0, 1), BAD);
        due("31 row", x.colours(0, 8, 0, 1), BAD);
        due("31 n", x.colours(0, 0, 0, 0), BAD);
        due("31 n", x.colours(0, 0, 0, 13), BAD);
        due("31 null", x.colours(0, 2, 0, 1), NULL);
        due("31 place", x.colours(0, 0, 5, 1), PLACE);
        due("31 place", x.colours(0, 0, -1, 1), PLACE);
        due("31 nothing changes", x.bag(0, 0), 1);
    }

    private static void sleepIs(String what, LuggageBelt x, int bag, int n, int p, long above, long below) {
        due("32 " + what, x.sleep(bag, n, p, 0), above);
        due("32 " + what, x.sleep(bag, n, p, 1), below);
    }

    private static void sleep() {
        due("32 no hall", new LuggageBelt().sleep(0, 0, 0, 0), BAD);
        LuggageBelt x = Due.belt("b6;c3,1;h1,1;");
        due("32 bag", x.sleep(2, 0, 0, 0), BAD);
        due("32 n", x.sleep(0, 61, 0, 0), BAD);
        due("32 n", x.sleep(0, -1, 0, 0), BAD);
        due("32 p", x.sleep(0, 0, 11, 0), BAD);
        due("32 p", x.sleep(0, 0, -1, 0), BAD);
        due("32 what", x.sleep(0, 0, 0, 2), BAD);
        due("32 what", x.sleep(0, 0, 0, -1), BAD);
        sleepIs("in the cart", x, 0, 0, 5, 0, 1);
        sleepIs("on the belt", x, 0, 1, 5, 1, 1);
        sleepIs("if the hasty one sleeps", x, 0, 2, 4, 2, 5);
        sleepIs("if both sleep", x, 0, 60, 4, 4, 25);
        sleepIs("nobody does", x, 0, 60, 0, 0, 1);
        sleepIs("all do", x, 0, 60, 10, 1, 1);
        // Bag 1: on the belt if the hasty one sleeps, or is gone with bag 0.
        sleepIs("bag 1", x, 1, 60, 3, 1, 1);
        // One who sleeps waits yet, so the shy one beside it takes nothing; nor does what it saw grow.
        sleepIs("the shy one", Due.belt("b6;s3,0;c4,1;"), 0, 4, 5, 1, 1);
        sleepIs("the shy one", Due.belt("b6;s3,0;c4,1;"), 0, 10, 5, 3, 4);
        x.ticks(2);
        sleepIs("who is gone falls not asleep", x, 1, 9, 3, 1, 1);
        sleepIs("many", Due.belt("b12;c1,0;h2,0;h3,0;h4,0;h5,0;h6,0;"), 0, 60, 1, 1, 1000000);
        due("32 nothing changes", x.stand(4), 1);
        LuggageBelt y = Due.belt("b6;c3,1;");
        sleepIs("asleep", y, 0, 9, 10, 1, 1);
        due("32 nobody is asleep then", y.all(4, 0), 1);
        due("32 nor in ticks", y.ticks(4), 1);
    }

    private static void drawn() {
        due("33 no hall, ahead of bad", new LuggageBelt().drawn(-1, 0, 9), STATE);
        LuggageBelt x = Due.belt("b4;c0,0;");
        due("33 n", x.drawn(61, 1, 0), BAD);
        due("33 n", x.drawn(-1, 1, 0), BAD);
        due("33 seed", x.drawn(0, 0, 0), BAD);
        due("33 seed", x.drawn(0, 1000000, 0), BAD);
        due("33 what", x.drawn(0, 1, 2), BAD);
        due("33 what", x.drawn(0, 1, -1), BAD);
        due("33 none", x.drawn(0, 1, 0), 0);
        // From 1: 16807, by 3 leaves 1: it stays at 0 and goes; 282475249: it comes back and goes; and so on.
        due("33 one day", x.drawn(1, 1, 0), 1);
        due("33 each day", x.drawn(60, 1, 0), 60);
        due("33 none wrong", x.drawn(60, 1, 1), 0);
        // From 3: 50421, by 3 leaves 0, by 4 leaves 1: it stands at 1 when bag 0 falls.
        due("33 it stands elsewhere", x.drawn(1, 3, 0), 0);
        // Then 847425747, by 3 leaves 0, by 4 leaves 3: it stands at 3 when bag 0 comes to 1.
        due("33 and elsewhere again", x.drawn(2, 3, 0), 0);
        // From 1: 16807 by 2 leaves 1 and by 3 leaves 1, 282475249 too: nobody moves in 2 days, and 1 takes bag 0.
        due("33 wrong", Due.belt(ROBBERY).drawn(2, 1, 1), 1);
        // Reckoned apart by another program.
        LuggageBelt y = Due.belt("b7;c3,0;h1,0;s5,1;h2,1;l0,2;");
        int[][] due = {{60, 999999, 25, 9}, {60, 1, 23, 11}, {37, 4711, 20, 5}, {1, 999999, 0, 0}, {20, 77, 9, 3}};
        for (int[] one : due) {
            due("33 drawn", y.drawn(one[0], one[1], 0), one[2]);
            due("33 drawn wrong", y.drawn(one[0], one[1], 1), one[3]);
        }
        due("33 nothing changes", x.count(3), 0);
    }

    private static void images() {
        due("34 bad ahead of no hall", new LuggageBelt().image(2), BAD);
        due("34 bad", new LuggageBelt().image(-1), BAD);
        due("34 no hall", new LuggageBelt().image(0), STATE);
        due("35 bad", new LuggageBelt().restore(2), BAD);
        due("35 bad", new LuggageBelt().restore(-1), BAD);
        due("35 none", new LuggageBelt().restore(1), STATE);
        LuggageBelt x = Due.belt(ROBBERY);
        x.ticks(2);
        x.move(0, 4);
        x.paint(1, 3);
        due("34 image", x.image(1), 1);
        due("35 of the other one none", x.restore(0), STATE);
        x.ticks(5);
        x.back(1);
        x.move(0, 5);
        x.paint(1, 0);
        due("34 the other one", x.image(0), 1);
        due("35 acts as yet", x.count(6), 12);
        due("35 restore", x.restore(1), 1);
        due("35 no act", x.count(6), 0);
        due("35 none to undo", x.undo(), STATE);
        due("35 tick", x.count(3), 2);
        due("35 stand", x.traveller(0, 0), 4);
        due("35 gone", x.traveller(1, 2), 0);
        due("35 colour", x.bag(1, 0), 3);
        due("35 bag 1", x.bag(1, 1), 0);
        due("35 place", x.place(0), 1);
        x.ticks(1);
        due("35 the belt goes on", x.place(1), 1);
        due("35 again", x.restore(1), 1);
        due("35 the image stays as it was", x.count(3), 2);
        due("7 another hall", Due.tell(x, "b4;l0,0;"), 1);
        due("35 the one before", x.restore(0), 1);
        due("35 places", x.count(2), 6);
        due("35 travellers", x.count(1), 2);
        due("35 kind", x.kind(0), 1);
        due("35 kind", x.kind(1), 3);
        due("35 tick", x.count(3), 7);
        due("35 waits", x.stand(4), 3);
        x.row(0, 0, 1);
        x.feed(98);
        x.restore(1);
        due("35 rows stay", x.count(0), 1);
        due("35 the tape stays", x.count(7), 1);
    }

    private static void kinds() {
        due("36 no hall", new LuggageBelt().kind(0), BAD);
        due("37 no hall", new LuggageBelt().as(0, 0), BAD);
        LuggageBelt x = Due.belt(ALL_KINDS);
        due("36 bad", x.kind(5), BAD);
        due("36 bad", x.kind(-1), BAD);
        due("37 bad", x.as(5, 0), BAD);
        due("37 bad", x.as(0, 6), BAD);
        due("37 bad", x.as(0, -1), BAD);
        String[] are = {"110000", "111000", "110100", "100010", "100011"};
        for (int t = 0; t < 5; t++) {
            due("36 kind", x.kind(t), t + 1);
            for (int kind = 0; kind < 6; kind++) {
                boolean is = are[t].charAt(kind) == '1';
                due("37 " + t + " as " + kind, x.as(t, kind), is ? t : KIND);
                due("41 status", x.status(), is ? 0 : 3);
            }
        }
    }

    private static void askIs(LuggageBelt x, int one, int what, int answer, int... trace) {
        due("38 ask " + one + " " + what, x.ask(one, what), answer);
        for (int i = 0; i < trace.length; i++) {
            due("39 trace " + i, x.trace(i), trace[i]);
        }
        due("39 no more", x.trace(trace.length), NONE);
        due("39 before", x.trace(-1), NONE);
    }

    private static void asks() {
        due("38 no hall", new LuggageBelt().ask(0, 0), BAD);
        LuggageBelt x = Due.belt(ALL_KINDS);
        x.ticks(12);
        int[] saw = {1, 1, 1, 0, 0};
        saw[4] = x.traveller(4, 3);
        due("38 the dozy one saw its own once", saw[4], 1);
        askIs(x, 0, 0, 2 + 0 + 1, 11, 10, 21, 20);
        askIs(x, 0, 1, 0 + 1, 21, 20);
        askIs(x, 1, 0, -(5 + 2 * (1 + 1)), 12, 11, 10, 24, 21, 20);
        askIs(x, 1, 1, 2 * (1 + 1), 24, 21, 20);
        askIs(x, 2, 0, 8 + 2 + 1 - 1000, 11, 10, 22, 21, 20);
        askIs(x, 2, 1, 2 + 1 - 1000, 22, 21, 20);
        askIs(x, 3, 0, 10 - 100, 13, 10);
        askIs(x, 3, 1, 3 - (10 - 100), 23, 20, 13, 10);
        askIs(x, 4, 0, 2 * (0 - 100), 14, 13, 10);
        askIs(x, 4, 1, 4 + 200, 23, 20, 14, 13, 10);
        LuggageBelt shy = Due.belt("b12;c2,0;c3,1;c4,2;s8,3;");
        askIs(shy, 3, 1, 2 * (3 + 0), 24, 21, 20);
        askIs(shy, 3, 0, -(8 + 2 * 3), 12, 11, 10, 24, 21, 20);
        shy.ticks(12);
        due("38 the shy one saw its own", shy.traveller(3, 3), 1);
        askIs(shy, 3, 1, 2 * (3 + 1), 24, 21, 20);
        askIs(shy, 3, 0, -(8 + 2 * (3 + 1)), 12, 11, 10, 24, 21, 20);
        due("38 bad", x.ask(5, 0), BAD);
        due("38 bad", x.ask(-1, 0), BAD);
        due("38 bad", x.ask(0, 2), BAD);
        due("38 bad", x.ask(0, -1), BAD);
        due("39 refused: the trace stays", x.trace(2), 14);
        due("39 far", x.trace(MAX), NONE);
        due("39 far", x.trace(MIN), NONE);
    }

    private static void counts() {
        due("40 bad", new LuggageBelt().count(8), BAD);
        due("40 bad", new LuggageBelt().count(-1), BAD);
        LuggageBelt x = Due.belt(ALL_KINDS);
        x.row(3, 0, 1);
        x.row(5, 1, 0);
        x.feed(1);
        x.ticks(12);
        x.turn();
        int[] due = {2, 5, 12, 12, 3, 4, 13, 1};
        for (int what = 0; what < 8; what++) {
            due("40 count " + what, x.count(what), due[what]);
        }
    }

    private static void status() {
        LuggageBelt x = Due.belt("b4;c0,0;l1,0;");
        due("41 none yet", x.status(), 0);
        x.set(0, 0, 0);
        due("41 null", x.status(), 1);
        x.set(8, 0, 0);
        due("41 bad does not count", x.status(), 1);
        x.ticks(1);
        x.count(0);
        due("41 nor calls with no row", x.status(), 1);
        x.row(0, 0, 3);
        due("41 none", x.status(), 0);
        x.set(0, 3, 0);
        due("41 place", x.status(), 2);
        x.set(0, 2, 0);
        due("41 none", x.status(), 0);
        x.as(0, 4);
        due("41 kind", x.status(), 3);
        x.as(0, 6);
        due("41 bad does not count", x.status(), 3);
        x.as(0, 1);
        due("41 none", x.status(), 0);
        x.row(1, 0, -1);
        due("41 size", x.status(), 4);
        x.row(1, 1, 3);
        x.copy(0, 0, 1, 0, 1);
        due("41 store", x.status(), 5);
        x.who(0, 0, 0, 0, 0, 1);
        due("41 none", x.status(), 0);
        x.who(0, 0, 0, 2, 0, 1);
        due("41 null", x.status(), 1);
        x.who(0, 0, 0, 2, 0, 13);
        due("41 bad does not count", x.status(), 1);
        x.colours(0, 0, 0, 1);
        due("41 none", x.status(), 0);
        x.colours(0, 0, 3, 1);
        due("41 place", x.status(), 2);
        x.copy(0, 0, 0, 1, 1);
        due("41 none", x.status(), 0);
        x.drop(2);
        due("41 null", x.status(), 1);
        x.drop(1);
        due("41 none", x.status(), 0);
        x.copy(0, 0, 2, 0, 1);
        due("41 null", x.status(), 1);
        due("41 a hall leaves it", Due.tell(x, "b4;c0,0;"), 1);
        due("41 null yet", x.status(), 1);
    }
}
