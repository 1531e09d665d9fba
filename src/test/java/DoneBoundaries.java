/** Boundary cases of promises 10 to 18: what is done, and what can be seen of it. */
final class DoneBoundaries implements Answers {
    /** Bag 0 is taken by 1 in tick 2, bag 1 goes round for ever. */
    private static final String ROBBERY = "b6;c3,1;h1,1;";
    private static final int[] NOT_ONE_OF_TWO = {-1, 2, 6, MIN, MAX};

    private DoneBoundaries() {
    }

    private static void due(String call, long got, long want) {
        Due.due(call, got, want);
    }

    // ---- 10 ticks

    @Sentence(at = "Promise 10", words = "n TICKS (1 to 24), an ACT each: who is GONE then (bits).")
    static void promise10_1And24() {
        LuggageBelt x = Due.belt("b12;d11,0;c0,1;");
        due("ticks(1)", x.ticks(1), 0);
        due("acts", x.count(6), 1);
        due("ticks(24)", x.ticks(24), 2);
        due("acts", x.count(6), 24);
        due("TICK", x.count(3), 25);
        due("ticks(10)", x.ticks(10), 2);
        due("ticks(1)", x.ticks(1), 3);
    }

    @Sentence(at = "Promise 10", words = "BAD; STATE: no HALL (ahead of BAD); FULL: TICK would be above 999.")
    static void promise10_fewerThan1OrMoreThan24IsBad() {
        LuggageBelt x = Due.belt("b4;c0,0;");
        for (int n : new int[] {0, -1, 25, MIN, MAX}) {
            due("ticks(" + n + ")", x.ticks(n), BAD);
        }
        due("TICK", x.count(3), 0);
        due("acts", x.count(6), 0);
    }

    @Sentence(at = "Promise 10", words = "BAD; STATE: no HALL (ahead of BAD); FULL: TICK would be above 999.")
    static void promise10_noHallIsStateAheadOfBad() {
        for (int n : new int[] {1, 24, 0, 25, -1, MIN, MAX}) {
            due("ticks(" + n + ")", new LuggageBelt().ticks(n), STATE);
        }
    }

    @Sentence(at = "Promise 10", words = "BAD; STATE: no HALL (ahead of BAD); FULL: TICK would be above 999.")
    static void promise10_above999IsFull() {
        LuggageBelt x = Due.belt("b4;d3,0;", 980);
        due("to 1004", x.ticks(24), FULL);
        due("to 1000", x.ticks(20), FULL);
        due("TICK", x.count(3), 980);
        due("acts", x.count(6), 24);
        due("to 999", x.ticks(19), 1);
        due("TICK", x.count(3), 999);
        due("to 1000", x.ticks(1), FULL);
        due("BAD comes first", x.ticks(0), BAD);
        due("BAD comes first", x.ticks(25), BAD);
    }

    @Sentence(at = "Promise 10", words = "BAD; STATE: no HALL (ahead of BAD); FULL: TICK would be above 999.")
    static void promise10_at999AllElseGoesOn() {
        LuggageBelt x = Due.belt("b4;s0,0;s1,0;", 999);
        due("ahead(0, 60): bag 0 is at (999 + 60 - 1) of 4", x.ahead(0, 60), 2);
        due("turn()", x.turn(), 2);
        due("move(1, 2)", x.move(1, 2), 1);
        due("all(4, 0)", x.all(4, 0), 3);
        due("drawn(60, 1, 0) ends", Math.min(1, x.drawn(60, 1, 0)), 1);
        due("undo()", x.undo(), 23);
        due("undo()", x.undo(), 22);
        due("undo()", x.undo(), 21);
        due("TICK", x.count(3), 998);
        due("ticks(2)", x.ticks(2), FULL);
        due("ticks(1)", x.ticks(1), 0);
        due("a HALL begins at 0", Due.tell(x, "b4;c0,0;"), 1);
        due("ticks(24)", x.ticks(24), 1);
    }

    // ---- 11 move

    @Sentence(at = "Promise 11", words = "Stands at a PLACE: where it stood.")
    static void promise11_fromTheFirstToTheLastPlace() {
        LuggageBelt x = Due.belt("b12;c0,0;");
        due("move(0, 11)", x.move(0, 11), 0);
        due("traveller(0, 0)", x.traveller(0, 0), 11);
        due("move(0, 0)", x.move(0, 0), 11);
        due("traveller(0, 0)", x.traveller(0, 0), 0);
        due("acts", x.count(6), 2);
    }

    @Sentence(at = "Promise 11", words = "BAD; STATE: it is GONE, or stands there.")
    static void promise11_noSuchTravellerIsBad() {
        LuggageBelt x = Due.belt(ROBBERY);
        for (int one : NOT_ONE_OF_TWO) {
            due("move(" + one + ", 0)", x.move(one, 0), BAD);
        }
        due("no HALL", new LuggageBelt().move(0, 0), BAD);
        due("acts", x.count(6), 0);
    }

    @Sentence(at = "Promise 11", words = "BAD; STATE: it is GONE, or stands there.")
    static void promise11_noSuchPlaceIsBad() {
        LuggageBelt x = Due.belt(ROBBERY);
        due("move(0, 5)", x.move(0, 5), 3);
        for (int place : new int[] {-1, 6, 11, 12, MIN, MAX}) {
            due("move(0, " + place + ")", x.move(0, place), BAD);
        }
        due("traveller(0, 0)", x.traveller(0, 0), 5);
        due("acts", x.count(6), 1);
    }

    @Sentence(at = "Promise 11", words = "BAD; STATE: it is GONE, or stands there.")
    static void promise11_whoIsGoneIsState() {
        LuggageBelt x = Due.belt(ROBBERY, 2);
        due("move(1, 0)", x.move(1, 0), STATE);
        due("where it stood", x.move(1, 1), STATE);
        due("BAD comes first", x.move(1, 6), BAD);
        due("acts", x.count(6), 2);
        x.back(1);
        due("back again", x.move(1, 0), 1);
    }

    @Sentence(at = "Promise 11", words = "BAD; STATE: it is GONE, or stands there.")
    static void promise11_whereItStandsIsState() {
        LuggageBelt x = Due.belt("b4;c0,0;c3,0;");
        due("move(0, 0)", x.move(0, 0), STATE);
        due("move(1, 3)", x.move(1, 3), STATE);
        due("acts", x.count(6), 0);
        due("where another one stands", x.move(0, 3), 0);
        due("move(0, 3)", x.move(0, 3), STATE);
    }

    // ---- 12 paint

    @Sentence(at = "Promise 12", words = "A BAG is painted (0 to 3): what it was.")
    static void promise12_colours0To3() {
        LuggageBelt x = Due.belt("b4;c0,2;");
        due("paint(0, 0)", x.paint(0, 0), 2);
        due("paint(0, 3)", x.paint(0, 3), 0);
        due("bag(0, 0)", x.bag(0, 0), 3);
        due("paint(0, 3) anew", x.paint(0, 3), 3);
        due("acts", x.count(6), 3);
    }

    @Sentence(at = "Promise 12", words = "BAD.")
    static void promise12_noSuchBagIsBad() {
        LuggageBelt x = Due.belt(ROBBERY);
        for (int bag : NOT_ONE_OF_TWO) {
            due("paint(" + bag + ", 0)", x.paint(bag, 0), BAD);
        }
        due("no HALL", new LuggageBelt().paint(0, 0), BAD);
        due("acts", x.count(6), 0);
    }

    @Sentence(at = "Promise 12", words = "BAD.")
    static void promise12_noSuchColourIsBad() {
        LuggageBelt x = Due.belt(ROBBERY);
        for (int colour : new int[] {-1, 4, MIN, MAX}) {
            due("paint(0, " + colour + ")", x.paint(0, colour), BAD);
        }
        due("bag(0, 0)", x.bag(0, 0), 1);
        due("acts", x.count(6), 0);
    }

    @Sentence(at = "Promise 12", words = "A BAG is painted (0 to 3): what it was.")
    static void promise12_whereverTheBagIs() {
        LuggageBelt x = Due.belt("b4;c0,0;d3,0;c0,0;", 2);
        due("taken", x.paint(0, 1), 0);
        due("on the belt", x.paint(1, 2), 0);
        due("in the cart", x.paint(2, 3), 0);
        due("colours", x.bag(0, 0) * 100 + x.bag(1, 0) * 10 + x.bag(2, 0), 123);
    }

    // ---- 13 back

    @Sentence(at = "Promise 13", words = "Comes back: which BAG it had.")
    static void promise13_withItsOwnOrAnothers() {
        LuggageBelt x = Due.belt("b4;c0,0;c3,1;h1,1;", 3);
        due("its own", x.back(0), 0);
        due("another's", x.back(2), 1);
        due("who waits", x.stand(4), 7);
        due("in the cart", x.stand(1), 3);
        due("taken", x.stand(3), 0);
        due("acts", x.count(6), 5);
    }

    @Sentence(at = "Promise 13", words = "BAD; STATE: it WAITS.")
    static void promise13_noSuchTravellerIsBad() {
        LuggageBelt x = Due.belt(ROBBERY, 2);
        for (int one : NOT_ONE_OF_TWO) {
            due("back(" + one + ")", x.back(one), BAD);
        }
        due("no HALL", new LuggageBelt().back(0), BAD);
        due("acts", x.count(6), 2);
    }

    @Sentence(at = "Promise 13", words = "BAD; STATE: it WAITS.")
    static void promise13_whoWaitsIsState() {
        LuggageBelt x = Due.belt(ROBBERY);
        due("back(0)", x.back(0), STATE);
        due("back(1)", x.back(1), STATE);
        x.ticks(2);
        due("robbed, it waits", x.back(0), STATE);
        due("gone", x.back(1), 0);
        due("it waits again", x.back(1), STATE);
        due("acts", x.count(6), 3);
    }

    // ---- 14 turn

    @Sentence(at = "Promise 14", words = "THE BELT is turned by hand: how many BAGS are on it.")
    static void promise14_withNoBagAndWithAFullBelt() {
        LuggageBelt x = Due.belt("b4;d3,0;d2,0;d1,0;d0,0;c0,0;");
        due("none on it", x.turn(), 0);
        due("an act, too", x.count(6), 1);
        due("nothing falls", x.stand(1), 31);
        x.ticks(4);
        due("a full belt", x.turn(), 4);
        due("bag 3 from 0 to 1", x.place(1), 3);
        due("bag 0 from the last to 0", x.place(0), 0);
        LuggageBelt y = Due.belt("b12;d0,0;d0,0;d0,0;d0,0;d0,0;d0,0;", 6);
        due("all six", y.turn(), 6);
    }

    @Sentence(at = "Promise 14", words = "STATE: no HALL.")
    static void promise14_noHallIsState() {
        LuggageBelt x = new LuggageBelt();
        due("turn()", x.turn(), STATE);
        due("acts", x.count(6), 0);
        Due.tell(x, "b4;");
        due("none behind a fault", x.turn(), STATE);
    }

    // ---- 15 traveller

    @Sentence(at = "Promise 15", words = "0 STAND, 1 whether it WAITS (1, 0), 2 the BAG with which it is GONE (NONE), "
        + "3 what it SAW, 4 whether it is WRONG (1, 0), 5 ROBBED.")
    static void promise15_atFirst() {
        LuggageBelt x = Due.belt("b12;c11,0;c0,0;");
        int[] due = {11, 1, NONE, 0, 0, 0};
        for (int what = 0; what < 6; what++) {
            due("traveller(0, " + what + ")", x.traveller(0, what), due[what]);
        }
        due("traveller(1, 0)", x.traveller(1, 0), 0);
    }

    @Sentence(at = "Promise 15", words = "0 STAND, 1 whether it WAITS (1, 0), 2 the BAG with which it is GONE (NONE), "
        + "3 what it SAW, 4 whether it is WRONG (1, 0), 5 ROBBED.")
    static void promise15_robbedWrongAndNeither() {
        LuggageBelt x = Due.belt("b6;c3,1;h1,1;c0,2;", 3);
        int[][] due = {{3, 1, NONE, 0, 0, 1}, {1, 0, 0, 0, 1, 0}, {0, 0, 2, 1, 0, 0}};
        for (int one = 0; one < 3; one++) {
            for (int what = 0; what < 6; what++) {
                due("traveller(" + one + ", " + what + ")", x.traveller(one, what), due[one][what]);
            }
        }
    }

    @Sentence(at = "Promise 15", words = "5 ROBBED. BAD.")
    static void promise15_noSuchTravellerOrNumberIsBad() {
        LuggageBelt x = Due.belt(ROBBERY);
        for (int one : NOT_ONE_OF_TWO) {
            due("traveller(" + one + ", 0)", x.traveller(one, 0), BAD);
        }
        for (int what : new int[] {-1, 6, MIN, MAX}) {
            due("traveller(0, " + what + ")", x.traveller(0, what), BAD);
        }
        due("no HALL", new LuggageBelt().traveller(0, 0), BAD);
    }

    // ---- 16 bag

    @Sentence(at = "Promise 16", words = "0 COLOUR, 1 where it is (as AHEAD tells).")
    static void promise16_fromTheCartToBeingTaken() {
        LuggageBelt x = Due.belt("b4;c3,3;");
        int[] where = {20, 0, 1, 2, 30, 30};
        for (int tick = 0; tick < 6; tick++) {
            due("bag(0, 1) at " + tick, x.bag(0, 1), where[tick]);
            due("bag(0, 0) at " + tick, x.bag(0, 0), 3);
            x.ticks(1);
        }
        // The last of six is taken by the last.
        LuggageBelt y = Due.belt("b12;c0,0;c0,0;c0,0;c0,0;c0,0;c0,0;", 6);
        due("bag(5, 1)", y.bag(5, 1), 35);
        due("on the last place", Due.belt("b12;d0,0;", 12).bag(0, 1), 11);
    }

    @Sentence(at = "Promise 16", words = "BAD.")
    static void promise16_noSuchBagOrNumberIsBad() {
        LuggageBelt x = Due.belt(ROBBERY);
        for (int bag : NOT_ONE_OF_TWO) {
            due("bag(" + bag + ", 0)", x.bag(bag, 0), BAD);
            due("bag(" + bag + ", 1)", x.bag(bag, 1), BAD);
        }
        for (int what : new int[] {-1, 2, MIN, MAX}) {
            due("bag(0, " + what + ")", x.bag(0, what), BAD);
        }
        due("no HALL", new LuggageBelt().bag(0, 0), BAD);
    }

    // ---- 17 stand

    @Sentence(at = "Promise 17", words = "0 PLACES, 1 BAGS in THE CART (bits), 2 on THE BELT, 3 TAKEN, 4 who WAITS (bits), "
        + "5 is WRONG, 6 is ROBBED.")
    static void promise17_fromNoneToAll() {
        LuggageBelt x = Due.belt("b4;c0,0;c0,0;c0,0;c0,0;c0,0;c0,0;");
        int[] atFirst = {4, 63, 0, 0, 63, 0, 0};
        int[] atLast = {4, 0, 0, 63, 0, 0, 0};
        for (int what = 0; what < 7; what++) {
            due("stand(" + what + ")", x.stand(what), atFirst[what]);
        }
        x.ticks(6);
        for (int what = 0; what < 7; what++) {
            due("stand(" + what + ")", x.stand(what), atLast[what]);
        }
        due("all on the belt", Due.belt("b12;d0,0;d0,0;d0,0;d0,0;d0,0;d0,0;", 6).stand(2), 63);
        due("PLACES", Due.belt("b12;c0,0;").stand(0), 12);
    }

    @Sentence(at = "Promise 17", words = "BAD; STATE: no HALL (ahead of BAD).")
    static void promise17_noSuchNumberIsBad() {
        LuggageBelt x = Due.belt(ROBBERY);
        for (int what : new int[] {-1, 7, 8, MIN, MAX}) {
            due("stand(" + what + ")", x.stand(what), BAD);
        }
    }

    @Sentence(at = "Promise 17", words = "BAD; STATE: no HALL (ahead of BAD).")
    static void promise17_noHallIsStateAheadOfBad() {
        for (int what : new int[] {0, 6, -1, 7, MIN, MAX}) {
            due("stand(" + what + ")", new LuggageBelt().stand(what), STATE);
        }
    }

    // ---- 18 place

    @Sentence(at = "Promise 18", words = "The BAG in a PLACE; NONE.")
    static void promise18_theFirstAndTheLastPlace() {
        LuggageBelt x = Due.belt("b4;d3,0;d3,0;d3,0;d3,0;d3,0;");
        for (int place = 0; place < 4; place++) {
            due("place(" + place + ")", x.place(place), NONE);
        }
        x.ticks(4);
        for (int place = 0; place < 4; place++) {
            due("place(" + place + ")", x.place(place), 3 - place);
        }
        LuggageBelt y = Due.belt("b12;d0,0;", 12);
        due("place(11)", y.place(11), 0);
        due("place(0)", y.place(0), NONE);
    }

    @Sentence(at = "Promise 18", words = "BAD.")
    static void promise18_noSuchPlaceIsBad() {
        for (int places = 4; places <= 12; places++) {
            LuggageBelt x = Due.belt("b" + places + ";c0,0;");
            due("place(-1)", x.place(-1), BAD);
            due("place(" + (places - 1) + ")", x.place(places - 1), NONE);
            due("place(" + places + ")", x.place(places), BAD);
            due("place(MIN)", x.place(MIN), BAD);
            due("place(MAX)", x.place(MAX), BAD);
        }
        due("no HALL", new LuggageBelt().place(0), BAD);
    }
}
