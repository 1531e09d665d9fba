/** Boundary cases of promises 19 to 35: what is foretold, and images. */
final class ForetoldBoundaries implements Answers {
    /** Bag 0 is taken by 1 in tick 2, bag 1 goes round for ever. */
    private static final String ROBBERY = "b6;c3,1;h1,1;";
    private static final int[] NOT_ONE_OF_TWO = {-1, 2, 6, MIN, MAX};
    private static final int[] NOT_0_TO_60 = {-1, 61, MIN, MAX};
    private static final int[] NOT_1_TO_60 = {0, -1, 61, MIN, MAX};
    private static final int[] NOT_1_TO_40 = {0, -1, 41, MIN, MAX};
    private static final int[] NOT_0_TO_1 = {-1, 2, MIN, MAX};
    private static final int[] NOT_0_TO_2 = {-1, 3, MIN, MAX};

    private ForetoldBoundaries() {
    }

    private static void due(String call, long got, long want) {
        Due.due(call, got, want);
    }

    // ---- 19 ahead

    @Sentence(at = "Promise 19", words = "AHEAD. BAD.")
    static void promise19_noSuchBagIsBad() {
        LuggageBelt x = Due.belt(ROBBERY);
        for (int bag : NOT_ONE_OF_TWO) {
            due("ahead(" + bag + ", 0)", x.ahead(bag, 0), BAD);
        }
        due("ahead(0, 0)", x.ahead(0, 0), 20);
        due("no HALL", new LuggageBelt().ahead(0, 0), BAD);
    }

    @Sentence(at = "Promise 19", words = "AHEAD. BAD.")
    static void promise19_nBelow0OrAbove60IsBad() {
        LuggageBelt x = Due.belt(ROBBERY);
        for (int n : NOT_0_TO_60) {
            due("ahead(0, " + n + ")", x.ahead(0, n), BAD);
        }
        due("ahead(0, 60)", x.ahead(0, 60), 31);
    }

    // ---- 20 with

    @Sentence(at = "Promise 20", words = "WITH: the BAG (what = 0; NONE), what it SAW (1).")
    static void promise20_noneUntilItIsGone() {
        LuggageBelt x = Due.belt(ROBBERY);
        due("with(1, 1, 0)", x.with(1, 1, 0), NONE);
        due("with(1, 2, 0)", x.with(1, 2, 0), 0);
        due("with(0, 60, 0)", x.with(0, 60, 0), NONE);
        due("with(0, 60, 1)", x.with(0, 60, 1), 0);
        x.ticks(2);
        due("gone now", x.with(1, 0, 0), 0);
    }

    @Sentence(at = "Promise 20", words = "BAD.")
    static void promise20_whatIsNotAsToldIsBad() {
        LuggageBelt x = Due.belt(ROBBERY);
        for (int one : NOT_ONE_OF_TWO) {
            due("with(" + one + ", 0, 0)", x.with(one, 0, 0), BAD);
        }
        for (int n : NOT_0_TO_60) {
            due("with(0, " + n + ", 0)", x.with(0, n, 0), BAD);
        }
        for (int what : NOT_0_TO_1) {
            due("with(0, 0, " + what + ")", x.with(0, 0, what), BAD);
        }
        due("no HALL", new LuggageBelt().with(0, 0, 0), BAD);
    }

    // ---- 21 all

    @Sentence(at = "Promise 21", words = "BAD; STATE: no HALL (ahead of BAD).")
    static void promise21_whatIsNotAsToldIsBad() {
        LuggageBelt x = Due.belt(ROBBERY);
        for (int n : NOT_0_TO_60) {
            due("all(" + n + ", 0)", x.all(n, 0), BAD);
        }
        for (int what : NOT_0_TO_2) {
            due("all(0, " + what + ")", x.all(0, what), BAD);
        }
        due("all(60, 2)", x.all(60, 2), 1);
    }

    @Sentence(at = "Promise 21", words = "BAD; STATE: no HALL (ahead of BAD).")
    static void promise21_noHallIsStateAheadOfBad() {
        LuggageBelt x = new LuggageBelt();
        due("all(0, 0)", x.all(0, 0), STATE);
        for (int n : NOT_0_TO_60) {
            due("all(" + n + ", 0)", x.all(n, 0), STATE);
        }
        for (int what : NOT_0_TO_2) {
            due("all(0, " + what + ")", x.all(0, what), STATE);
        }
    }

    // ---- 22 when

    @Sentence(at = "Promise 22", words = "WHEN; NONE.")
    static void promise22_neverIsNone() {
        LuggageBelt x = Due.belt(ROBBERY);
        due("robbed", x.when(0), NONE);
        due("gone", x.when(1), 2);
        x.ticks(2);
        due("robbed", x.when(0), NONE);
        due("gone now", x.when(1), 0);
    }

    @Sentence(at = "Promise 22", words = "BAD.")
    static void promise22_noSuchTravellerIsBad() {
        LuggageBelt x = Due.belt(ROBBERY);
        for (int one : NOT_ONE_OF_TWO) {
            due("when(" + one + ")", x.when(one), BAD);
        }
        due("no HALL", new LuggageBelt().when(0), BAD);
    }

    // ---- 23 empty

    @Sentence(at = "Promise 23", words = "EMPTY; NONE.")
    static void promise23_neverIsNone() {
        due("a bag goes round", Due.belt(ROBBERY).empty(), NONE);
        due("six are taken as they fall", Due.belt("b4;c0,0;c0,0;c0,0;c0,0;c0,0;c0,0;").empty(), 6);
        due("empty now", Due.belt("b4;c0,0;", 1).empty(), 0);
    }

    @Sentence(at = "Promise 23", words = "STATE: no HALL.")
    static void promise23_noHallIsState() {
        due("empty()", new LuggageBelt().empty(), STATE);
    }

    // ---- 24 best

    @Sentence(at = "Promise 24", words = "STAND: which (what = 0), behind how many (1); NONE.")
    static void promise24_nowhereIsNone() {
        LuggageBelt x = Due.belt(ROBBERY, 2);
        due("robbed", x.best(0, 60, 0), NONE);
        due("robbed", x.best(0, 60, 1), NONE);
        LuggageBelt y = Due.belt("b6;c3,1;c1,1;", 2);
        due("at 2 next", y.best(0, 1, 0), 2);
        due("at 2 next", y.best(0, 1, 1), 1);
    }

    @Sentence(at = "Promise 24", words = "BAD; STATE: it is GONE.")
    static void promise24_whatIsNotAsToldIsBad() {
        LuggageBelt x = Due.belt(ROBBERY);
        for (int one : NOT_ONE_OF_TWO) {
            due("best(" + one + ", 1, 0)", x.best(one, 1, 0), BAD);
        }
        for (int n : NOT_1_TO_60) {
            due("best(0, " + n + ", 0)", x.best(0, n, 0), BAD);
        }
        for (int what : NOT_0_TO_1) {
            due("best(0, 1, " + what + ")", x.best(0, 1, what), BAD);
        }
        due("no HALL", new LuggageBelt().best(0, 1, 0), BAD);
    }

    @Sentence(at = "Promise 24", words = "BAD; STATE: it is GONE.")
    static void promise24_whoIsGoneIsState() {
        LuggageBelt x = Due.belt(ROBBERY, 2);
        due("best(1, 60, 0)", x.best(1, 60, 0), STATE);
        due("best(1, 1, 1)", x.best(1, 1, 1), STATE);
        due("BAD comes first", x.best(1, 61, 0), BAD);
        due("BAD comes first", x.best(1, 1, 2), BAD);
        x.back(1);
        due("back again", x.best(1, 60, 1), 1);
    }

    // ---- 25 order

    @Sentence(at = "Promise 25", words = "ORDER: how many (k = -1), the k-th (0 on; NONE: not so many).")
    static void promise25_kFromMinus1ToBeyondTheLast() {
        for (int count = 1; count <= 6; count++) {
            LuggageBelt x = Due.belt("b12;" + "c11,0;".repeat(count));
            due("order(1, -1)", x.order(1, -1), 0);
            due("order(40, -1)", x.order(40, -1), count);
            due("the first", x.order(40, 0), 0);
            due("the last", x.order(40, count - 1), count - 1);
            due("not so many", x.order(40, count), NONE);
            due("not so many", x.order(40, 6), NONE);
            due("not so many", x.order(40, MAX), NONE);
        }
    }

    @Sentence(at = "Promise 25", words = "ORDER: how many (k = -1), the k-th (0 on; NONE: not so many).")
    static void promise25_anEmptyCartHasAnOrderYet() {
        // The order is one of all bags, whether they are in the cart or not.
        LuggageBelt x = Due.belt("b4;c0,0;d3,0;", 2);
        due("the cart is empty", x.stand(1), 0);
        due("order(1, -1)", x.order(1, -1), 1);
        due("order(1, 0)", x.order(1, 0), 0);
        due("order(1, 1)", x.order(1, 1), 1);
        due("order(1, 2)", x.order(1, 2), NONE);
    }

    @Sentence(at = "Promise 25", words = "ORDER: how many (k = -1), the k-th (0 on; NONE: not so many).")
    static void promise25_bagsThatDoNotFallComeAsEarlyAsTheirNumbersLetThem() {
        // Bag 0 is on the belt; 2 is to fall ahead of 1.
        LuggageBelt x = Due.belt("b6;d4,0;c3,1;c0,2;", 1);
        int[] order = {1, 0, 2, 1, NONE};
        for (int k = -1; k < 4; k++) {
            due("order(1, " + k + ")", x.order(1, k), order[k + 1]);
        }
        // Bag 2 is taken, bag 1 on the belt, bag 0 in the cart alone: no order but the first makes a difference.
        LuggageBelt y = Due.belt("b6;c3,1;h0,1;c0,2;", 3);
        y.back(1);
        due("in the cart", y.stand(1), 1);
        for (int k = 0; k < 3; k++) {
            due("order(9, " + k + ")", y.order(9, k), k);
        }
        due("a lesser one in the cart that does not fall comes behind", Due.belt("b6;c5,0;c0,1;").order(1, 0), 1);
        due("and is the last", Due.belt("b6;c5,0;c0,1;").order(1, 1), 0);
    }

    @Sentence(at = "Promise 25", words = "ORDER: how many (k = -1), the k-th (0 on; NONE: not so many).")
    static void promise25_isFoundAnewOnceTheHallHasChanged() {
        LuggageBelt x = Due.belt("b6;c3,1;h1,1;");
        due("the hasty one's first", x.order(9, 0), 1);
        x.paint(0, 2);
        due("of another colour", x.order(9, 0), 0);
        due("for fewer ticks nobody goes", x.order(1, -1), 0);
        x.undo();
        due("the hasty one's first", x.order(9, 0), 1);
        due("another hall of one place more", Due.tell(x, "b7;c3,1;h3,1;"), 2);
        due("behind the calm one", x.order(9, 0), 0);
    }

    @Sentence(at = "Promise 25", words = "BAD: k below -1, too; STATE: no HALL (ahead of BAD).")
    static void promise25_nNotAsToldIsBad() {
        LuggageBelt x = Due.belt(ROBBERY);
        for (int n : NOT_1_TO_40) {
            due("order(" + n + ", -1)", x.order(n, -1), BAD);
            due("order(" + n + ", 0)", x.order(n, 0), BAD);
            due("order(" + n + ", 9), ahead of NONE", x.order(n, 9), BAD);
        }
    }

    @Sentence(at = "Promise 25", words = "BAD: k below -1, too; STATE: no HALL (ahead of BAD).")
    static void promise25_kBelowMinus1IsBad() {
        LuggageBelt x = Due.belt(ROBBERY);
        due("order(1, -2)", x.order(1, -2), BAD);
        due("order(1, MIN)", x.order(1, MIN), BAD);
        due("order(1, -1)", x.order(1, -1), 0);
    }

    @Sentence(at = "Promise 25", words = "BAD: k below -1, too; STATE: no HALL (ahead of BAD).")
    static void promise25_noHallIsStateAheadOfBad() {
        LuggageBelt x = new LuggageBelt();
        due("order(1, -1)", x.order(1, -1), STATE);
        due("order(0, -1)", x.order(0, -1), STATE);
        due("order(1, -2)", x.order(1, -2), STATE);
        due("order(1, 0)", x.order(1, 0), STATE);
    }

    // ---- 26 marks

    @Sentence(at = "Promise 26", words = "MARK: how many (what = 0), which (1).")
    static void promise26_fromNoneToFive() {
        LuggageBelt x = Due.belt("b4;h0,0;");
        due("none", x.marks(40, 0), 0);
        due("none", x.marks(40, 1), 0);
        // At 6 .. 2 wait hasty ones, each takes the first bag that comes by, which is never its own.
        LuggageBelt y = Due.belt("b12;c11,0;h5,0;h4,0;h3,0;h2,0;h1,0;");
        due("five", y.marks(40, 0), 5);
        due("all but the last", y.marks(40, 1), 31);
    }

    @Sentence(at = "Promise 26", words = "BAD; STATE: no HALL (ahead of BAD).")
    static void promise26_whatIsNotAsToldIsBad() {
        LuggageBelt x = Due.belt(ROBBERY);
        for (int n : NOT_1_TO_40) {
            due("marks(" + n + ", 0)", x.marks(n, 0), BAD);
        }
        for (int what : NOT_0_TO_1) {
            due("marks(1, " + what + ")", x.marks(1, what), BAD);
        }
    }

    @Sentence(at = "Promise 26", words = "BAD; STATE: no HALL (ahead of BAD).")
    static void promise26_noHallIsStateAheadOfBad() {
        LuggageBelt x = new LuggageBelt();
        due("marks(1, 0)", x.marks(1, 0), STATE);
        due("marks(0, 0)", x.marks(0, 0), STATE);
        due("marks(41, 0)", x.marks(41, 0), STATE);
        due("marks(1, 2)", x.marks(1, 2), STATE);
    }

    // ---- 27 sets

    @Sentence(at = "Promise 27", words = "BAD; STATE: no HALL (ahead of BAD).")
    static void promise27_whatIsNotAsToldIsBad() {
        LuggageBelt x = Due.belt(ROBBERY);
        for (int v : new int[] {-1, 100, MIN, MAX}) {
            due("sets(" + v + ", 0)", x.sets(v, 0), BAD);
        }
        for (int what : NOT_0_TO_2) {
            due("sets(0, " + what + ")", x.sets(0, what), BAD);
        }
        due("sets(99, 2)", x.sets(99, 2), 0);
    }

    @Sentence(at = "Promise 27", words = "BAD; STATE: no HALL (ahead of BAD).")
    static void promise27_noHallIsStateAheadOfBad() {
        LuggageBelt x = new LuggageBelt();
        due("sets(0, 0)", x.sets(0, 0), STATE);
        due("sets(-1, 0)", x.sets(-1, 0), STATE);
        due("sets(100, 0)", x.sets(100, 0), STATE);
        due("sets(0, 3)", x.sets(0, 3), STATE);
    }

    // ---- 28 share

    @Sentence(at = "Promise 28", words = "SHARE. BAD.")
    static void promise28_whatIsNotAsToldIsBad() {
        LuggageBelt x = Due.belt("b4;c0,0;c0,0;", 2);
        for (int one : NOT_ONE_OF_TWO) {
            due("share(" + one + ", 0)", x.share(one, 0), BAD);
        }
        for (int n : new int[] {-1, 1000, MIN, MAX}) {
            due("share(0, " + n + ")", x.share(0, n), BAD);
        }
        due("share(0, 999)", x.share(0, 999), 500);
        due("share(1, 999)", x.share(1, 999), 499);
        due("no HALL", new LuggageBelt().share(0, 0), BAD);
    }

    // ---- 29 byTurns

    @Sentence(at = "Promise 29", words = "BAD; STATE: no HALL (ahead of BAD).")
    static void promise29_whatIsNotAsToldIsBad() {
        LuggageBelt x = Due.belt(ROBBERY);
        for (int n : new int[] {-1, 5, MIN, MAX}) {
            due("byTurns(" + n + ", 1)", x.byTurns(n, 1), BAD);
        }
        for (int m : new int[] {0, -1, 21, MIN, MAX}) {
            due("byTurns(0, " + m + ")", x.byTurns(0, m), BAD);
        }
        due("byTurns(4, 20)", x.byTurns(4, 20), 1);
    }

    @Sentence(at = "Promise 29", words = "BAD; STATE: no HALL (ahead of BAD).")
    static void promise29_noHallIsStateAheadOfBad() {
        LuggageBelt x = new LuggageBelt();
        due("byTurns(0, 1)", x.byTurns(0, 1), STATE);
        due("byTurns(-1, 1)", x.byTurns(-1, 1), STATE);
        due("byTurns(5, 1)", x.byTurns(5, 1), STATE);
        due("byTurns(0, 0)", x.byTurns(0, 0), STATE);
        due("byTurns(0, 21)", x.byTurns(0, 21), STATE);
    }

    // ---- 30 who

    /** Row 0 has 14 items: where bag 0 is (0, 1, 2, 3, ..) from item 1 on, row 1 none, the others are missing. */
    private static LuggageBelt told() {
        LuggageBelt x = Due.belt("b12;c11,0;d11,1;");
        x.row(0, 0, 14);
        for (int i = 1; i < 14; i++) {
            x.set(0, i, i <= 11 ? i - 1 : 30);
        }
        x.set(0, 0, 99);
        x.row(1, 0, 0);
        return x;
    }

    @Sentence(at = "Promise 30", words = "n ITEMS of a ROW from i on.")
    static void promise30_fromTheFirstToTheLastItem() {
        LuggageBelt x = told();
        due("12 from item 1 on", x.who(0, 0, 0, 0, 1, 12), 1 << 1 | 1 << 3);
        due("12 from the first item on", x.who(0, 0, 0, 0, 0, 12), 0);
        due("12 to the last item", x.who(0, 0, 0, 0, 2, 12), 0);
        x.ticks(1);
        due("12 to the last item, one tick on", x.who(0, 0, 0, 0, 2, 12), 1 << 1 | 1 << 3);
        x.ticks(11);
        due("the last item", x.who(0, 0, 0, 0, 13, 1), 62);
    }

    @Sentence(at = "Promise 30", words = "BAD: TRAVELLER, which, BAG, ROW, n; NULL; PLACE.")
    static void promise30_noSuchTravellerOrBagIsBad() {
        LuggageBelt x = told();
        for (int one : NOT_ONE_OF_TWO) {
            due("traveller " + one, x.who(one, 0, 0, 0, 1, 1), BAD);
            due("traveller " + one, x.who(one, 1, 0, 0, 1, 1), BAD);
            due("bag " + one, x.who(0, 0, one, 0, 1, 1), BAD);
        }
        due("no HALL", new LuggageBelt().who(0, 0, 0, 0, 0, 1), BAD);
    }

    @Sentence(at = "Promise 30", words = "BAD: TRAVELLER, which, BAG, ROW, n; NULL; PLACE.")
    static void promise30_whichNot0Or1IsBad() {
        LuggageBelt x = told();
        for (int which : NOT_0_TO_1) {
            due("which " + which, x.who(0, which, 0, 0, 1, 1), BAD);
        }
    }

    @Sentence(at = "Promise 30", words = "BAD: TRAVELLER, which, BAG, ROW, n; NULL; PLACE.")
    static void promise30_noSuchRowIsBad() {
        LuggageBelt x = told();
        for (int row : new int[] {-1, 8, MIN, MAX}) {
            due("row " + row, x.who(0, 0, 0, row, 1, 1), BAD);
        }
    }

    @Sentence(at = "Promise 30", words = "BAD: TRAVELLER, which, BAG, ROW, n; NULL; PLACE.")
    static void promise30_nNot1To12IsBad() {
        LuggageBelt x = told();
        for (int n : new int[] {0, -1, 13, 40, MIN, MAX}) {
            due("n " + n, x.who(0, 0, 0, 0, 1, n), BAD);
            due("n " + n + ", ahead of NULL", x.who(0, 0, 0, 7, 1, n), BAD);
            due("n " + n + ", ahead of PLACE", x.who(0, 0, 0, 0, -1, n), BAD);
        }
        due("status()", x.status(), 0);
    }

    @Sentence(at = "Promise 30", words = "BAD: TRAVELLER, which, BAG, ROW, n; NULL; PLACE.")
    static void promise30_aMissingRowIsNull() {
        LuggageBelt x = told();
        due("row 7", x.who(0, 0, 0, 7, 0, 1), NULL);
        due("row 7, ahead of PLACE", x.who(0, 1, 0, 7, -1, 1), NULL);
        due("status()", x.status(), 1);
        x.drop(0);
        due("dropped", x.who(0, 0, 0, 0, 1, 1), NULL);
    }

    @Sentence(at = "Promise 30", words = "BAD: TRAVELLER, which, BAG, ROW, n; NULL; PLACE.")
    static void promise30_beyondTheItemsIsPlace() {
        LuggageBelt x = told();
        due("before the first", x.who(0, 0, 0, 0, -1, 1), PLACE);
        due("before the first, 12", x.who(0, 0, 0, 0, -1, 12), PLACE);
        due("12 beyond the last", x.who(0, 0, 0, 0, 3, 12), PLACE);
        due("1 beyond the last", x.who(0, 0, 0, 0, 14, 1), PLACE);
        due("of no items", x.who(0, 0, 0, 1, 0, 1), PLACE);
        due("the sum comes round", x.who(0, 0, 0, 0, MAX, 12), PLACE);
        due("MIN", x.who(0, 0, 0, 0, MIN, 12), PLACE);
        due("stands, too", x.who(0, 1, 0, 0, 14, 1), PLACE);
        due("status()", x.status(), 2);
    }

    // ---- 31 colours

    @Sentence(at = "Promise 31", words = "COLOURS of a BAG by where it is, likewise.")
    static void promise31_fromTheFirstToTheLastItem() {
        LuggageBelt x = told();
        due("12 from item 1 on", x.colours(0, 0, 1, 12), 15);
        due("12 from the first item on", x.colours(0, 0, 0, 12), 0);
        x.ticks(1);
        due("12 to the last item, one tick on", x.colours(0, 0, 2, 12), 15);
        x.ticks(11);
        due("the last item", x.colours(0, 0, 13, 1), 15);
    }

    @Sentence(at = "Promise 31", words = "BAD: BAG, ROW, n; NULL; PLACE.")
    static void promise31_whatIsNotAsToldIsBad() {
        LuggageBelt x = told();
        for (int bag : NOT_ONE_OF_TWO) {
            due("bag " + bag, x.colours(bag, 0, 1, 1), BAD);
        }
        for (int row : new int[] {-1, 8, MIN, MAX}) {
            due("row " + row, x.colours(0, row, 1, 1), BAD);
        }
        for (int n : new int[] {0, -1, 13, MIN, MAX}) {
            due("n " + n, x.colours(0, 0, 1, n), BAD);
            due("n " + n + ", ahead of NULL", x.colours(0, 7, 1, n), BAD);
        }
        due("no HALL", new LuggageBelt().colours(0, 0, 0, 1), BAD);
        due("status()", x.status(), 0);
    }

    @Sentence(at = "Promise 31", words = "BAD: BAG, ROW, n; NULL; PLACE.")
    static void promise31_aMissingRowIsNull() {
        LuggageBelt x = told();
        due("row 7", x.colours(0, 7, 0, 1), NULL);
        due("row 7, ahead of PLACE", x.colours(0, 7, 40, 1), NULL);
        due("status()", x.status(), 1);
    }

    @Sentence(at = "Promise 31", words = "BAD: BAG, ROW, n; NULL; PLACE.")
    static void promise31_beyondTheItemsIsPlace() {
        LuggageBelt x = told();
        due("before the first", x.colours(0, 0, -1, 1), PLACE);
        due("12 beyond the last", x.colours(0, 0, 3, 12), PLACE);
        due("1 beyond the last", x.colours(0, 0, 14, 1), PLACE);
        due("of no items", x.colours(0, 1, 0, 1), PLACE);
        due("the sum comes round", x.colours(0, 0, MAX, 1), PLACE);
        due("status()", x.status(), 2);
    }

    // ---- 32 sleep

    @Sentence(at = "Promise 32", words = "SLEEP: above (what = 0), below (1). BAD.")
    static void promise32_whatIsNotAsToldIsBad() {
        LuggageBelt x = Due.belt(ROBBERY);
        for (int bag : NOT_ONE_OF_TWO) {
            due("bag " + bag, x.sleep(bag, 0, 0, 0), BAD);
        }
        for (int n : NOT_0_TO_60) {
            due("n " + n, x.sleep(0, n, 0, 0), BAD);
        }
        for (int p : new int[] {-1, 11, MIN, MAX}) {
            due("p " + p, x.sleep(0, 0, p, 0), BAD);
        }
        for (int what : NOT_0_TO_1) {
            due("what " + what, x.sleep(0, 0, 0, what), BAD);
        }
        due("no HALL", new LuggageBelt().sleep(0, 0, 0, 0), BAD);
    }

    // ---- 33 drawn

    @Sentence(at = "Promise 33", words = "DAYS by a SEED (1 to 999999): how many (what = 0), WRONG (1).")
    static void promise33_theLeastAndTheGreatestSeed() {
        LuggageBelt x = Due.belt("b4;c0,0;");
        due("seed 0", x.drawn(1, 0, 0), BAD);
        due("seed 1", x.drawn(1, 1, 0), 1);
        due("seed 999999", x.drawn(1, 999999, 0), 1);
        due("seed 1000000", x.drawn(1, 1000000, 0), BAD);
        LuggageBelt y = Due.belt("b7;c3,0;h1,0;s5,1;h2,1;l0,2;");
        due("seed 1", y.drawn(60, 1, 0), 23);
        due("seed 1, WRONG", y.drawn(60, 1, 1), 11);
        due("seed 999999", y.drawn(60, 999999, 0), 25);
        due("seed 999999, WRONG", y.drawn(60, 999999, 1), 9);
    }

    @Sentence(at = "Promise 33", words = "BAD; STATE: no HALL (ahead of BAD).")
    static void promise33_whatIsNotAsToldIsBad() {
        LuggageBelt x = Due.belt(ROBBERY);
        for (int n : NOT_0_TO_60) {
            due("n " + n, x.drawn(n, 1, 0), BAD);
        }
        for (int seed : new int[] {0, -1, 1000000, MIN, MAX}) {
            due("seed " + seed, x.drawn(0, seed, 0), BAD);
        }
        for (int what : NOT_0_TO_1) {
            due("what " + what, x.drawn(0, 1, what), BAD);
        }
    }

    @Sentence(at = "Promise 33", words = "BAD; STATE: no HALL (ahead of BAD).")
    static void promise33_noHallIsStateAheadOfBad() {
        LuggageBelt x = new LuggageBelt();
        due("drawn(0, 1, 0)", x.drawn(0, 1, 0), STATE);
        due("drawn(-1, 1, 0)", x.drawn(-1, 1, 0), STATE);
        due("drawn(61, 1, 0)", x.drawn(61, 1, 0), STATE);
        due("drawn(0, 0, 0)", x.drawn(0, 0, 0), STATE);
        due("drawn(0, 1000000, 0)", x.drawn(0, 1000000, 0), STATE);
        due("drawn(0, 1, 2)", x.drawn(0, 1, 2), STATE);
    }

    // ---- 34 image

    @Sentence(at = "Promise 34", words = "An IMAGE (0, 1) is kept of the HALL: 1.")
    static void promise34_twoImagesEachOfItsOwn() {
        LuggageBelt x = Due.belt("b4;d0,0;", 1);
        due("image(0)", x.image(0), 1);
        x.ticks(1);
        due("image(1)", x.image(1), 1);
        x.ticks(1);
        due("restore(0)", x.restore(0), 1);
        due("TICK", x.count(3), 1);
        due("restore(1)", x.restore(1), 1);
        due("TICK", x.count(3), 2);
        x.ticks(5);
        due("image(0) anew", x.image(0), 1);
        x.ticks(1);
        due("restore(0)", x.restore(0), 1);
        due("TICK", x.count(3), 7);
        due("restore(1)", x.restore(1), 1);
        due("TICK", x.count(3), 2);
    }

    @Sentence(at = "Promise 34", words = "BAD; STATE: no HALL.")
    static void promise34_noSuchImageIsBad() {
        LuggageBelt x = Due.belt(ROBBERY);
        for (int k : NOT_0_TO_1) {
            due("image(" + k + ")", x.image(k), BAD);
            due("image(" + k + "), no HALL", new LuggageBelt().image(k), BAD);
        }
        due("none was kept", x.restore(0), STATE);
        due("none was kept", x.restore(1), STATE);
    }

    @Sentence(at = "Promise 34", words = "BAD; STATE: no HALL.")
    static void promise34_noHallIsState() {
        LuggageBelt x = new LuggageBelt();
        due("image(0)", x.image(0), STATE);
        due("image(1)", x.image(1), STATE);
        due("none was kept", x.restore(0), STATE);
        due("none was kept", x.restore(1), STATE);
    }

    // ---- 35 restore

    @Sentence(at = "Promise 35", words = "The HALL is as an IMAGE kept it (no ACT can be undone then): 1.")
    static void promise35_noActCanBeUndoneThen() {
        LuggageBelt x = Due.belt(ROBBERY, 3);
        x.image(0);
        String kept = Picture.ofHall(x);
        due("acts", x.count(6), 3);
        due("restore(0)", x.restore(0), 1);
        due("acts", x.count(6), 0);
        due("undo()", x.undo(), STATE);
        Due.holds("as it was kept", kept.equals(Picture.ofHall(x)));
        x.ticks(24);
        x.back(1);
        due("restore(0)", x.restore(0), 1);
        due("undo()", x.undo(), STATE);
        Due.holds("as it was kept", kept.equals(Picture.ofHall(x)));
        x.ticks(1);
        due("undo()", x.undo(), 0);
        Due.holds("as it was kept", kept.equals(Picture.ofHall(x)));
    }

    @Sentence(at = "Promise 35", words = "The HALL is as an IMAGE kept it (no ACT can be undone then): 1.")
    static void promise35_behindAnotherHall() {
        LuggageBelt x = Due.belt("b12;c11,3;s10,2;h9,1;l8,0;d7,3;c6,2;", 9);
        x.image(1);
        String kept = Picture.ofHall(x);
        Due.tell(x, "b4;d0,0;c1,1;");
        x.ticks(2);
        due("restore(1)", x.restore(1), 1);
        Due.holds("as it was kept", kept.equals(Picture.ofHall(x)));
        due("the belt goes on", x.ticks(3), 37);
    }

    @Sentence(at = "Promise 35", words = "BAD; STATE: none was kept.")
    static void promise35_noSuchImageIsBad() {
        LuggageBelt x = Due.belt(ROBBERY);
        x.image(0);
        x.image(1);
        for (int k : NOT_0_TO_1) {
            due("restore(" + k + ")", x.restore(k), BAD);
            due("restore(" + k + "), none was kept", new LuggageBelt().restore(k), BAD);
        }
    }

    @Sentence(at = "Promise 35", words = "BAD; STATE: none was kept.")
    static void promise35_noneKeptIsState() {
        LuggageBelt x = Due.belt(ROBBERY, 2);
        due("restore(0)", x.restore(0), STATE);
        due("restore(1)", x.restore(1), STATE);
        due("acts", x.count(6), 2);
        x.image(1);
        due("restore(0)", x.restore(0), STATE);
        due("acts", x.count(6), 2);
        due("restore(1)", x.restore(1), 1);
    }
}
