/** Boundary cases of the Terms' part 3: what is FORETOLD, and the KINDS. */
final class ForetoldTermsBoundaries implements Answers {
    /** Bag 1 falls in tick 2 and goes round for ever: 1 is gone with bag 0, and 0 waits for it. */
    private static final String ROBBERY = "b6;c3,1;h1,1;";

    private ForetoldTermsBoundaries() {
    }

    private static void due(String call, long got, long want) {
        Due.due(call, got, want);
    }

    @Sentence(at = "Terms 3", words = "FORETOLD (nothing changes).")
    static void terms3_whatIsForetoldChangesNothing() {
        LuggageBelt x = Due.belt("b6;c3,1;h1,1;s5,0;d0,2;", 3);
        x.turn();
        x.row(0, 0, 12);
        String before = Picture.of(x);
        x.ahead(1, 60);
        x.with(0, 60, 0);
        x.all(60, 0);
        x.when(0);
        x.empty();
        x.best(0, 60, 0);
        x.order(40, 0);
        x.marks(40, 0);
        x.sets(1, 0);
        x.share(0, 999);
        x.byTurns(4, 20);
        x.who(0, 0, 0, 0, 0, 12);
        x.who(0, 1, 0, 0, 0, 12);
        x.colours(0, 0, 0, 12);
        x.sleep(0, 60, 5, 0);
        x.drawn(60, 999999, 0);
        Due.holds("all is as it was", before.equals(Picture.of(x)));
        due("undo()", x.undo(), 3);
        due("the turn is undone", x.bag(1, 1), 1);
    }

    @Sentence(at = "Terms 3", words = "AHEAD by n TICKS (0 to 60) of a BAG: where it is")
    static void terms3_aheadBy0To60() {
        LuggageBelt x = Due.belt(ROBBERY, 2);
        due("ahead(1, -1)", x.ahead(1, -1), BAD);
        due("ahead(1, 0)", x.ahead(1, 0), 0);
        due("ahead(1, 1)", x.ahead(1, 1), 1);
        due("ahead(1, 59)", x.ahead(1, 59), 5);
        due("ahead(1, 60)", x.ahead(1, 60), 0);
        due("ahead(1, 61)", x.ahead(1, 61), BAD);
    }

    @Sentence(at = "Terms 3", words = "(its PLACE; 20 in THE CART; 30 and the TRAVELLER: TAKEN)")
    static void terms3_whereABagIs() {
        LuggageBelt x = Due.belt("b12;c11,1;c10,1;c9,1;c8,1;c7,1;c6,1;");
        due("in THE CART", x.ahead(5, 5), 20);
        due("in PLACE 0", x.ahead(5, 6), 0);
        due("in PLACE 10", x.ahead(0, 11), 10);
        int[] takenIn = {12, 12, 12, 12, 12, 12};
        for (int bag = 0; bag < 6; bag++) {
            due("TAKEN by " + bag, x.ahead(bag, takenIn[bag]), 30 + bag);
        }
        LuggageBelt y = Due.belt("b12;c0,1;c10,1;h1,1;h1,1;h1,1;h0,1;");
        due("TAKEN by the first", y.ahead(0, 1), 30);
        due("TAKEN by the last", y.ahead(1, 2), 35);
        due("in the last PLACE", Due.belt("b12;d0,0;").ahead(0, 12), 11);
    }

    @Sentence(at = "Terms 3", words = "WITH behind n TICKS (0 to 60): the BAG with which a TRAVELLER is GONE "
        + "(NONE: it WAITS); what it SAW.")
    static void terms3_withBehind0To60() {
        // Two shy ones side by side: 0 at 3 sees its own in ticks 4, 8, .. 60.
        LuggageBelt x = Due.belt("b4;s3,0;s2,0;");
        due("with(0, -1, 1)", x.with(0, -1, 1), BAD);
        due("with(0, 0, 1)", x.with(0, 0, 1), 0);
        due("with(0, 59, 1)", x.with(0, 59, 1), 14);
        due("with(0, 60, 1)", x.with(0, 60, 1), 15);
        due("with(0, 61, 1)", x.with(0, 61, 1), BAD);
        due("it WAITS", x.with(0, 60, 0), NONE);
        LuggageBelt y = Due.belt("b4;c0,0;");
        due("it WAITS", y.with(0, 0, 0), NONE);
        due("it is GONE", y.with(0, 1, 0), 0);
        due("it is GONE", y.with(0, 60, 0), 0);
    }

    @Sentence(at = "Terms 3", words = "ALL behind n TICKS (0 to 60): who is GONE (bits); WRONG; ROBBED.")
    static void terms3_allBehind0To60() {
        LuggageBelt x = Due.belt(ROBBERY);
        int[] behindTwo = {2, 2, 1};
        for (int what = 0; what < 3; what++) {
            due("all(-1, " + what + ")", x.all(-1, what), BAD);
            due("all(0, " + what + ")", x.all(0, what), 0);
            due("all(1, " + what + ")", x.all(1, what), 0);
            due("all(2, " + what + ")", x.all(2, what), behindTwo[what]);
            due("all(60, " + what + ")", x.all(60, what), behindTwo[what]);
            due("all(61, " + what + ")", x.all(61, what), BAD);
        }
        // A shy one beside a dozy one goes in tick 53: no hall was found in which one goes later.
        LuggageBelt y = Due.belt("b12;c5,0;c5,1;c5,2;c5,3;s0,0;d11,0;");
        due("all(52, 0)", y.all(52, 0), 47);
        due("all(53, 0)", y.all(53, 0), 63);
    }

    @Sentence(at = "Terms 3", words = "WHEN a TRAVELLER is GONE: behind how many TICKS (0 to 60) first; NONE.")
    static void terms3_whenFrom0On() {
        LuggageBelt x = Due.belt("b4;c0,0;c3,0;");
        due("behind 1", x.when(0), 1);
        due("behind 5", x.when(1), 5);
        x.ticks(1);
        due("now", x.when(0), 0);
        x.ticks(3);
        due("behind 1", x.when(1), 1);
        x.ticks(1);
        due("now", x.when(1), 0);
    }

    @Sentence(at = "Terms 3", words = "WHEN a TRAVELLER is GONE: behind how many TICKS (0 to 60) first; NONE.")
    static void terms3_whenLateAndNever() {
        // The dozy one sees its own in ticks 17, 29, 41; the shy one beside it in 5, 17, 29, 41 (looking first), 53.
        LuggageBelt x = Due.belt("b12;c5,0;c5,1;c5,2;c5,3;s0,0;d11,0;");
        due("the dozy one", x.when(5), 41);
        due("the shy one, as late as can be", x.when(4), 53);
        due("robbed", Due.belt(ROBBERY).when(0), NONE);
        LuggageBelt y = Due.belt("b4;s0,0;s1,0;");
        due("never", y.when(0), NONE);
        due("never", y.when(1), NONE);
    }

    @Sentence(at = "Terms 3", words = "EMPTY: behind how many TICKS (0 to 60) no BAG is in THE CART "
        + "or on THE BELT first; NONE.")
    static void terms3_emptyFrom0On() {
        LuggageBelt x = Due.belt("b4;c0,0;c3,0;");
        due("behind 5", x.empty(), 5);
        x.ticks(4);
        due("behind 1", x.empty(), 1);
        x.ticks(1);
        due("now", x.empty(), 0);
        due("back in the cart", x.back(0), 0);
        due("behind 1", x.empty(), 1);
    }

    @Sentence(at = "Terms 3", words = "EMPTY: behind how many TICKS (0 to 60) no BAG is in THE CART "
        + "or on THE BELT first; NONE.")
    static void terms3_emptyLateAndNever() {
        due("as late as can be", Due.belt("b12;c5,0;c5,1;c5,2;c5,3;s0,0;d11,0;").empty(), 53);
        due("one bag goes round for ever", Due.belt(ROBBERY).empty(), NONE);
        // Four shy ones side by side, whose bags fill the belt for ever: the fifth bag never falls.
        due("some stay in the cart", Due.belt("b4;s0,0;s1,0;s0,1;s1,1;c2,2;").empty(), NONE);
    }

    @Sentence(at = "Terms 3", words = "STAND of one that WAITS, n TICKS (1 to 60): the PLACE where it should stand from now on "
        + "by which it is GONE with its own soonest, n at most, of several the least: which; behind how many TICKS; NONE.")
    static void terms3_bestWithin1To60() {
        LuggageBelt x = Due.belt("b12;d5,0;");
        due("best(0, 0, 1)", x.best(0, 0, 1), BAD);
        due("best(0, 1, 1)", x.best(0, 1, 1), NONE);
        due("best(0, 24, 1)", x.best(0, 24, 1), NONE);
        due("best(0, 24, 0)", x.best(0, 24, 0), NONE);
        due("best(0, 25, 1)", x.best(0, 25, 1), 25);
        due("best(0, 25, 0)", x.best(0, 25, 0), 0);
        due("best(0, 60, 1)", x.best(0, 60, 1), 25);
        due("best(0, 61, 1)", x.best(0, 61, 1), BAD);
        LuggageBelt y = Due.belt("b4;c0,0;");
        due("best(0, 1, 1)", y.best(0, 1, 1), 1);
        due("best(0, 1, 0)", y.best(0, 1, 0), 0);
    }

    @Sentence(at = "Terms 3", words = "n at most, of several the least: which; behind how many TICKS; NONE.")
    static void terms3_bestIsWhereItIsSoonestOrNowhere() {
        // At 0 and 1 the dozy one is beside.
        LuggageBelt x = Due.belt("b8;s4,0;d0,1;");
        due("which", x.best(0, 60, 0), 2);
        due("behind", x.best(0, 60, 1), 3);
        // A slow one that saw its own once, as it lies at the last place: 0 is next, round the end.
        LuggageBelt y = Due.belt("b4;l3,0;", 4);
        due("which", y.best(0, 60, 0), 0);
        due("behind", y.best(0, 60, 1), 1);
        // Two shy ones at 1 and at 3 are beside every place, and none of them goes while it stands there.
        LuggageBelt z = Due.belt("b4;s0,0;s1,0;s3,0;");
        due("nowhere", z.best(0, 60, 0), NONE);
        due("nowhere", z.best(0, 60, 1), NONE);
        // Its bag lies ahead of the last place: sooner there than at 0 by one tick.
        LuggageBelt last = Due.belt("b6;c5,0;", 5);
        due("which", last.best(0, 60, 0), 5);
        due("behind", last.best(0, 60, 1), 1);
        // A hasty one is gone with bag 0 wherever it stands, never with its own.
        LuggageBelt hasty = Due.belt("b4;l3,0;h2,0;");
        due("not with its own", hasty.best(1, 60, 0), NONE);
        due("not with its own", hasty.best(1, 60, 1), NONE);
    }

    @Sentence(at = "Terms 3", words = "by which it is GONE with its own soonest, n at most, of several the least")
    static void terms3_bestOfSeveralIsTheLeast() {
        // Where 4 stands, tells whether the shy 0 at 3 is alone, and so when bag 4 falls. At 0 it is not: bag 0 comes to
        // place 0 in tick 5, bag 4 falls in tick 6. At 1 it is: bag 0 is gone in tick 4, bag 4 falls in 5, is at 1 in 6.
        LuggageBelt x = Due.belt("b4;s3,0;h0,2;s1,3;s1,1;c3,1;");
        x.move(4, 0);
        due("at 0 behind", x.when(4), 6);
        x.move(4, 1);
        due("at 1 behind", x.when(4), 6);
        due("at 0 and at 1 alike: which", x.best(4, 60, 0), 0);
        due("at 0 and at 1 alike: behind", x.best(4, 60, 1), 6);
        due("n is enough for both", x.best(4, 6, 0), 0);
        due("n is enough for none", x.best(4, 5, 0), NONE);
        LuggageBelt y = Due.belt("b4;s0,3;s2,3;l2,1;h2,1;d2,2;");
        due("at 2 behind", y.when(4), 15);
        due("at 0 and at 2 alike: which", y.best(4, 60, 0), 0);
        due("at 0 and at 2 alike: behind", y.best(4, 60, 1), 15);
    }

    @Sentence(at = "Terms 3", words = "ORDER for n TICKS (1 to 40)")
    static void terms3_orderFor1To40() {
        // Bags 0 to 3 come to place 0 in the next four ticks, so bag 4 falls in the fifth: seen at 11 in 16, 28, 40.
        LuggageBelt x = Due.belt("b12;s5,0;s5,1;s5,2;s5,3;d11,0;", 4);
        for (int i = 0; i < 8; i++) {
            x.turn();
        }
        due("bag 0 is at the last place", x.bag(0, 1), 11);
        due("order(0, -1)", x.order(0, -1), BAD);
        due("order(1, -1)", x.order(1, -1), 0);
        due("order(39, -1)", x.order(39, -1), 0);
        due("order(40, -1)", x.order(40, -1), 1);
        due("order(41, -1)", x.order(41, -1), BAD);
    }

    @Sentence(at = "Terms 3", words = "of several that by which what all SAW together is least")
    static void terms3_orderOfSeveralTheLeastSeen() {
        // The shy one looks ahead of the calm one: if its bag falls first, it sees it once in vain.
        LuggageBelt x = Due.belt("b4;s1,0;c0,1;");
        due("how many", x.order(20, -1), 2);
        due("the first", x.order(20, 0), 1);
        due("the second", x.order(20, 1), 0);
        // Nobody goes in one tick, but the slow one at the chute would see its own.
        LuggageBelt y = Due.belt("b4;l0,0;l1,1;");
        due("nobody goes", y.order(1, -1), 0);
        due("the first", y.order(1, 0), 1);
        due("the second", y.order(1, 1), 0);
    }

    @Sentence(at = "Terms 3", words = "of several the first (by numbers): how many; the k-th BAG.")
    static void terms3_orderOfSeveralTheFirstByNumbers() {
        LuggageBelt x = Due.belt("b12;c11,0;c11,0;c11,0;c11,0;c11,0;c11,0;");
        due("nobody can go in one tick", x.order(1, -1), 0);
        for (int k = 0; k < 6; k++) {
            due("order(1, " + k + ")", x.order(1, k), k);
            due("order(40, " + k + ")", x.order(40, k), k);
        }
        due("order(40, 6)", x.order(40, 6), NONE);
        due("all can in 40", x.order(40, -1), 6);
    }

    @Sentence(at = "Terms 3", words = "MARK for n TICKS (1 to 40)")
    static void terms3_marksFor1To40() {
        LuggageBelt x = Due.belt(ROBBERY);
        due("marks(0, 0)", x.marks(0, 0), BAD);
        due("marks(1, 0)", x.marks(1, 0), 0);
        due("marks(2, 0)", x.marks(2, 0), 1);
        due("marks(40, 0)", x.marks(40, 0), 1);
        due("marks(41, 0)", x.marks(41, 0), BAD);
    }

    @Sentence(at = "Terms 3", words = "let nobody be WRONG behind them who is not now: how many; which (bits), "
        + "of several the least.")
    static void terms3_marksOfSeveralTheLeast() {
        LuggageBelt x = Due.belt(ROBBERY);
        due("bag 0 or bag 1 would do: the least", x.marks(2, 1), 1);
        LuggageBelt y = Due.belt("b8;c6,1;h2,1;h1,1;");
        due("two of three", y.marks(40, 0), 2);
        due("the least of two", y.marks(40, 1), 3);
        due("none is needed", Due.belt("b8;c6,1;h2,2;h1,3;").marks(40, 1), 0);
    }

    @Sentence(at = "Terms 3", words = "let nobody be WRONG behind them who is not now: how many; which (bits), "
        + "of several the least.")
    static void terms3_whoIsWrongNowDoesNotCount() {
        LuggageBelt x = Due.belt("b6;c3,1;h1,1;c5,2;h4,2;", 2);
        due("WRONG now", x.stand(5), 2);
        due("another one would be", x.all(40, 1), 10);
        due("marks(40, 0)", x.marks(40, 0), 1);
        due("marks(40, 1)", x.marks(40, 1), 4);
    }

    @Sentence(at = "Terms 3", words = "SETS of v (0 to 99)")
    static void terms3_setsOf0To99() {
        LuggageBelt x = Due.belt("b4;s0,0;s1,0;d2,1;", 392);
        due("0 SAW 98 times", x.traveller(0, 3), 98);
        due("1 SAW 98 times", x.traveller(1, 3), 98);
        due("sets(-1, 0)", x.sets(-1, 0), BAD);
        due("the empty set", x.sets(0, 0), 1);
        due("sets(98, 0)", x.sets(98, 0), 2);
        due("sets(99, 0)", x.sets(99, 0), 0);
        x.ticks(1);
        due("sets(98, 2)", x.sets(98, 2), 2);
        due("sets(99, 2)", x.sets(99, 2), 1);
        x.ticks(8);
        due("sets(99, 0)", x.sets(99, 0), 2);
        due("sets(99, 2)", x.sets(99, 2), 3);
        due("sets(100, 0)", x.sets(100, 0), BAD);
    }

    @Sentence(at = "Terms 3", words = "TRAVELLERS (bits) that are in all of these (none: 0); in any.")
    static void terms3_inAllOfNoSetsAre0() {
        LuggageBelt x = Due.belt("b4;d0,0;d1,0;d2,0;", 5);
        due("no set saw 9", x.sets(9, 0), 0);
        due("in all of none", x.sets(9, 1), 0);
        due("in any of none", x.sets(9, 2), 0);
        due("all three saw 4", x.sets(4, 0), 1);
        due("in all of one", x.sets(4, 1), 7);
        due("in any of one", x.sets(4, 2), 7);
        due("0 and 1, or 0 and 2 saw 3", x.sets(3, 0), 2);
        due("in all of two", x.sets(3, 1), 1);
        due("in any of two", x.sets(3, 2), 7);
        due("the empty set alone", x.sets(0, 0), 1);
        due("in all of it", x.sets(0, 1), 0);
        due("in any of it", x.sets(0, 2), 0);
    }

    @Sentence(at = "Terms 3", words = "of those that WAIT: how many;")
    static void terms3_setsWhenNobodyWaits() {
        LuggageBelt x = Due.belt("b4;c0,0;c0,0;", 2);
        due("nobody WAITS", x.stand(4), 0);
        due("what all SAW", x.count(5), 2);
        due("the empty set", x.sets(0, 0), 1);
        due("in any", x.sets(0, 2), 0);
        due("of those that are GONE none", x.sets(1, 0), 0);
    }

    @Sentence(at = "Terms 3", words = "SHARE of n (0 to 999)")
    static void terms3_shareOf0To999() {
        LuggageBelt x = Due.belt("b4;c0,0;", 1);
        due("share(0, -1)", x.share(0, -1), BAD);
        due("share(0, 0)", x.share(0, 0), 0);
        due("share(0, 1)", x.share(0, 1), 1);
        due("share(0, 999)", x.share(0, 999), 999);
        due("share(0, 1000)", x.share(0, 1000), BAD);
        // 99 and 99 and 1, of 999: 497, 497 and 5 are exact but for what is cut.
        LuggageBelt y = Due.belt("b4;s0,0;s1,0;c3,1;", 400);
        due("saw", y.traveller(0, 3) * 10000 + y.traveller(1, 3) * 100 + y.traveller(2, 3), 999901);
        due("share(0, 999)", y.share(0, 999), 497);
        due("share(1, 999)", y.share(1, 999), 497);
        due("share(2, 999)", y.share(2, 999), 5);
    }

    @Sentence(at = "Terms 3", words = "(cut), what is over 1 each to the first ones that SAW any")
    static void terms3_whatIsOverGoesToTheFirstThatSawAny() {
        // 0 saw none; 1, 2, 3 saw once each.
        LuggageBelt x = Due.belt("b6;c5,0;c0,0;c0,0;c0,0;", 4);
        int[][] due = {{0, 0, 0, 0}, {0, 1, 0, 0}, {0, 1, 1, 0}, {0, 1, 1, 1}, {0, 2, 1, 1}};
        for (int n = 0; n < due.length; n++) {
            for (int one = 0; one < 4; one++) {
                due("share(" + one + ", " + n + ")", x.share(one, n), due[n][one]);
            }
        }
    }

    @Sentence(at = "Terms 3", words = "how many a TRAVELLER gets (0, if none did).")
    static void terms3_nobodySawAny() {
        LuggageBelt x = Due.belt("b4;c3,0;c3,0;");
        due("share(0, 999)", x.share(0, 999), 0);
        due("share(1, 999)", x.share(1, 999), 0);
        due("share(0, 0)", x.share(0, 0), 0);
    }

    @Sentence(at = "Terms 3", words = "TURNS of two, n in all (0 to 4), m TICKS (1 to 20)")
    static void terms3_turnsOf0To4() {
        // Bag 0 lies at 4, one ahead of its traveller's stand: what is turned takes it past, or back.
        LuggageBelt x = Due.belt("b12;c5,0;", 5);
        due("byTurns(-1, 1)", x.byTurns(-1, 1), BAD);
        due("byTurns(0, 1)", x.byTurns(0, 1), 1);
        due("byTurns(1, 1)", x.byTurns(1, 1), 1);
        due("byTurns(2, 1)", x.byTurns(2, 1), 0);
        due("byTurns(3, 1)", x.byTurns(3, 1), 1);
        due("byTurns(4, 1)", x.byTurns(4, 1), 0);
        due("byTurns(5, 1)", x.byTurns(5, 1), BAD);
        // At 3 it is one turn too far off: the one is the first to turn it, and the last of one or three.
        LuggageBelt y = Due.belt("b12;c5,0;", 4);
        for (int n = 0; n <= 4; n++) {
            due("byTurns(" + n + ", 1)", y.byTurns(n, 1), n % 2);
        }
    }

    @Sentence(at = "Terms 3", words = "TURNS of two, n in all (0 to 4), m TICKS (1 to 20)")
    static void terms3_turnsThen1To20Ticks() {
        // A dozy one at 3 of 8 sees its own in ticks 4, 12, 20.
        LuggageBelt x = Due.belt("b8;d3,0;");
        due("byTurns(0, 0)", x.byTurns(0, 0), BAD);
        due("byTurns(0, 1)", x.byTurns(0, 1), 0);
        due("byTurns(0, 19)", x.byTurns(0, 19), 0);
        due("byTurns(0, 20)", x.byTurns(0, 20), 1);
        due("byTurns(0, 21)", x.byTurns(0, 21), BAD);
        due("in one tick", Due.belt("b8;c0,0;").byTurns(0, 1), 1);
    }

    @Sentence(at = "Terms 3", words = "(each BAG to the PLACE before; the last before 0)")
    static void terms3_turnedTheOtherWayTheLastIsBefore0() {
        for (int places = 4; places <= 12; places++) {
            // Bag 0 lies at 0, its traveller stands at 1: gone in one tick only if it is not turned in the end.
            LuggageBelt x = Due.belt("b" + places + ";c1,0;", 1);
            due("as it is", x.byTurns(0, 1), 1);
            due("the one lets it be", x.byTurns(1, 1), 1);
            due("the other one turns it to the last", x.byTurns(2, 1), 0);
            due("from the last it is two ticks", x.byTurns(2, 2), 1);
            due("the one turns it from the last to 0 again", x.byTurns(3, 1), 1);
            due("and the other one back", x.byTurns(4, 1), 0);
        }
    }

    @Sentence(at = "Terms 3", words = "A row tells where a BAG is (as AHEAD tells) behind each of n TICKS (1 to 12) from now on.")
    static void terms3_aRowTells1To12Ticks() {
        LuggageBelt x = Due.belt("b12;c11,0;");
        x.row(0, 0, 40);
        for (int i = 0; i < 13; i++) {
            x.set(0, i, i < 11 ? i : 30);
        }
        due("n = 0", x.who(0, 0, 0, 0, 0, 0), BAD);
        due("n = 1", x.who(0, 0, 0, 0, 0, 1), 62);
        due("n = 11", x.who(0, 0, 0, 0, 0, 11), 62);
        due("n = 12: the bag is taken in the twelfth", x.who(0, 0, 0, 0, 0, 12), 1 << 1 | 1 << 2 | 1 << 3);
        due("n = 13", x.who(0, 0, 0, 0, 0, 13), BAD);
        due("colours, n = 12", x.colours(0, 0, 0, 12), 15);
        due("colours, n = 13", x.colours(0, 0, 0, 13), BAD);
        x.set(0, 11, 11);
        due("n = 12: it is not", x.who(0, 0, 0, 0, 0, 12), 1 << 4 | 1 << 5);
    }

    @Sentence(at = "Terms 3", words = "KINDS (bits 1 to 5), STANDS (PLACES, bits) of a TRAVELLER by which it is so.")
    static void terms3_kindsAreBits1To5() {
        LuggageBelt x = Due.belt("b12;d0,0;", 36);
        x.row(0, 0, 1);
        x.set(0, 0, 30);
        due("it is gone: all five", x.who(0, 0, 0, 0, 0, 1), 2 + 4 + 8 + 16 + 32);
        x.set(0, 0, 20);
        due("none", x.who(0, 0, 0, 0, 0, 1), 0);
    }

    @Sentence(at = "Terms 3", words = "KINDS (bits 1 to 5), STANDS (PLACES, bits) of a TRAVELLER by which it is so.")
    static void terms3_standsAreBitsOfAllPlaces() {
        for (int places = 4; places <= 12; places++) {
            LuggageBelt x = Due.belt("b" + places + ";c0,0;");
            x.row(0, 0, 1);
            due("on the belt at 0: everywhere but there", x.who(0, 1, 0, 0, 0, 1), (1 << places) - 2);
            x.set(0, 0, 30);
            due("taken: there", x.who(0, 1, 0, 0, 0, 1), 1);
            x.ticks(1);
            due("gone: everywhere", x.who(0, 1, 0, 0, 0, 1), (1 << places) - 1);
        }
        LuggageBelt y = Due.belt("b12;c5,0;");
        y.row(0, 0, 12);
        for (int i = 0; i < 12; i++) {
            y.set(0, i, i < 11 ? i : 30);
        }
        due("at the last place", y.who(0, 1, 0, 0, 0, 12), 1 << 11);
    }

    @Sentence(at = "Terms 3", words = "COLOURS (0 to 3, bits) of a BAG by which it is so.")
    static void terms3_coloursAreBits0To3() {
        for (int colour = 0; colour < 4; colour++) {
            LuggageBelt x = Due.belt("b6;c3,0;h0," + colour + ";");
            x.row(0, 0, 1);
            due("not taken: all but that", x.colours(0, 0, 0, 1), 15 & ~(1 << colour));
            x.set(0, 0, 31);
            due("taken: that", x.colours(0, 0, 0, 1), 1 << colour);
            x.set(0, 0, 30);
            due("none", x.colours(0, 0, 0, 1), 0);
        }
        LuggageBelt y = Due.belt("b6;c3,0;");
        y.row(0, 0, 1);
        due("all four", y.colours(0, 0, 0, 1), 15);
    }

    @Sentence(at = "Terms 3", words = "SLEEP by p of 10 (0 to 10)")
    static void terms3_sleepBy0To10Of10() {
        LuggageBelt x = Due.belt("b4;c0,0;");
        due("p = -1", x.sleep(0, 1, -1, 0), BAD);
        for (int p = 0; p <= 10; p++) {
            due("p = " + p, x.sleep(0, 1, p, 0) * 10, p * x.sleep(0, 1, p, 1));
        }
        due("p = 0, below", x.sleep(0, 1, 0, 1), 1);
        due("p = 1, below", x.sleep(0, 1, 1, 1), 10);
        due("p = 9, below", x.sleep(0, 1, 9, 1), 10);
        due("p = 10, above", x.sleep(0, 1, 10, 0), 1);
        due("p = 10, below", x.sleep(0, 1, 10, 1), 1);
        due("p = 11", x.sleep(0, 1, 11, 0), BAD);
    }

    @Sentence(at = "Terms 3", words = "how likely a BAG is on THE BELT behind n TICKS (0 to 60): a fraction.")
    static void terms3_sleepBehind0To60() {
        LuggageBelt x = Due.belt("b4;c0,0;d3,1;");
        due("n = -1", x.sleep(0, -1, 5, 0), BAD);
        due("n = 0: in the cart", x.sleep(0, 0, 5, 0), 0);
        due("n = 0, below", x.sleep(0, 0, 5, 1), 1);
        due("n = 1", x.sleep(0, 1, 5, 0), 1);
        due("n = 1, below", x.sleep(0, 1, 5, 1), 2);
        due("n = 60", x.sleep(0, 60, 3, 0), 3);
        due("n = 60, below", x.sleep(0, 60, 3, 1), 10);
        due("n = 61", x.sleep(0, 61, 5, 0), BAD);
        // Six who wait: a million cases by tenths.
        LuggageBelt y = Due.belt("b12;c1,0;h2,0;h3,0;h4,0;h5,0;h6,0;");
        due("all six asleep, above", y.sleep(0, 60, 9, 0), 531441);
        due("all six asleep, below", y.sleep(0, 60, 9, 1), 1000000);
    }

    @Sentence(at = "Terms 3", words = "each TRAVELLER that WAITS falls asleep now in p of 10 cases, apart "
        + "(it takes nothing any more, nor SAW it any more; it WAITS)")
    static void terms3_whoIsGoneFallsNotAsleepAndWhoSleepsWaits() {
        LuggageBelt x = Due.belt("b4;c0,0;", 1);
        due("nobody can fall asleep, above", x.sleep(0, 60, 10, 0), 0);
        due("nobody can fall asleep, below", x.sleep(0, 60, 10, 1), 1);
        // Bag 1 is on the belt if 1 sleeps; that 0 is gone makes no case more or less.
        LuggageBelt z = Due.belt("b4;c0,0;c3,1;", 1);
        due("one of two is gone, above", z.sleep(1, 60, 3, 0), 3);
        due("one of two is gone, below", z.sleep(1, 60, 3, 1), 10);
        due("nobody is asleep behind it", z.all(4, 0), 3);
        due("nor in ticks", z.ticks(4), 3);
        // A shy one beside one that sleeps takes nothing.
        LuggageBelt y = Due.belt("b6;s0,0;c1,1;");
        due("10 of 10: on the belt", y.sleep(0, 60, 10, 0), 1);
        due("5 of 10: taken if both are awake", y.sleep(0, 60, 5, 0) * 4, y.sleep(0, 60, 5, 1) * 3);
    }

    @Sentence(at = "Terms 3", words = "DAYS of n TICKS (0 to 60) by a SEED (X at first)")
    static void terms3_daysOf0To60() {
        // From 1 the calm one at the chute goes every day, and comes back on the next.
        LuggageBelt x = Due.belt("b4;c0,0;");
        due("n = -1", x.drawn(-1, 1, 0), BAD);
        due("n = 0", x.drawn(0, 1, 0), 0);
        due("n = 1", x.drawn(1, 1, 0), 1);
        due("n = 59", x.drawn(59, 1, 0), 59);
        due("n = 60", x.drawn(60, 1, 0), 60);
        due("n = 61", x.drawn(61, 1, 0), BAD);
    }

    @Sentence(at = "Terms 3", words = "X becomes the rest of (X times 16807) by 2147483647")
    static void terms3_xTimes16807IsMoreThanAnIntHolds() {
        // 999999 times 16807 is 16806983193, by 2147483647 leaves 1774597664: by 3 it leaves 2, so nobody moves.
        LuggageBelt x = Due.belt("b4;c0,0;");
        due("nobody moves", x.drawn(1, 999999, 0), 1);
        // 127774 times 16807 is 2147497618, by 2147483647 leaves 13971, by 3 leaves 0, by 4 leaves 3: it stands at 3.
        due("it stands at 3", x.drawn(1, 127774, 0), 0);
        // 127773 times 16807 is 2147480811, no rest is needed: by 3 leaves 0, by 4 leaves 3.
        due("it stands at 3", x.drawn(1, 127773, 0), 0);
    }

    @Sentence(at = "Terms 3", words = "KINDS of TRAVELLERS: 0 TRAVELLER; 1 CALM, a TRAVELLER; 2 SHY, a CALM one; "
        + "3 HASTY, a CALM one; 4 SLOW, a TRAVELLER; 5 DOZY, a SLOW one.")
    static void terms3_kinds0To5() {
        LuggageBelt x = Due.belt("b4;c0,0;s0,0;h0,0;l0,0;d0,0;");
        String[] are = {"110000", "111000", "110100", "100010", "100011"};
        for (int one = 0; one < 5; one++) {
            for (int kind = 0; kind < 6; kind++) {
                due("as(" + one + ", " + kind + ")", x.as(one, kind), are[one].charAt(kind) == '1' ? one : KIND);
            }
            due("as(" + one + ", -1)", x.as(one, -1), BAD);
            due("as(" + one + ", 6)", x.as(one, 6), BAD);
        }
    }
}
