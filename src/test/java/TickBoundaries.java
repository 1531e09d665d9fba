/** Boundary cases of the Terms' part 2: a TICK, WRONG and ROBBED, ACTS. */
final class TickBoundaries implements Answers {
    private TickBoundaries() {
    }

    private static void due(String call, long got, long want) {
        Due.due(call, got, want);
    }

    @Sentence(at = "Terms 2", words = "A BAG is in THE CART, on THE BELT (in a PLACE), or TAKEN (by a TRAVELLER).")
    static void terms2_aBagIsInOneOfThese() {
        LuggageBelt x = Due.belt("b4;c0,0;c3,0;d1,0;");
        int[] cart = {7, 6, 4, 0, 0, 0};
        int[] taken = {0, 1, 1, 1, 1, 3};
        for (int tick = 0; tick < 6; tick++) {
            due("in THE CART at " + tick, x.stand(1), cart[tick]);
            due("on THE BELT at " + tick, x.stand(2), 7 & ~cart[tick] & ~taken[tick]);
            due("TAKEN at " + tick, x.stand(3), taken[tick]);
            x.ticks(1);
        }
    }

    @Sentence(at = "Terms 2", words = "A TRAVELLER WAITS (at its STAND), or is GONE (with a BAG).")
    static void terms2_aTravellerWaitsOrIsGone() {
        LuggageBelt x = Due.belt("b4;c0,0;");
        due("WAITS", x.traveller(0, 1), 1);
        due("with no BAG", x.traveller(0, 2), NONE);
        x.ticks(1);
        due("WAITS no more", x.traveller(0, 1), 0);
        due("is GONE with its BAG", x.traveller(0, 2), 0);
    }

    @Sentence(at = "Terms 2", words = "1 each BAG on THE BELT comes to the next PLACE (0 behind the last).")
    static void terms2_behindTheLastPlaceComes0() {
        for (int places = 4; places <= 12; places++) {
            LuggageBelt x = Due.belt("b" + places + ";d0,0;", places);
            due("at the last of " + places, x.bag(0, 1), places - 1);
            due("place(last)", x.place(places - 1), 0);
            x.ticks(1);
            due("at 0 of " + places, x.bag(0, 1), 0);
            due("place(0)", x.place(0), 0);
            due("place(last)", x.place(places - 1), NONE);
        }
    }

    @Sentence(at = "Terms 2", words = "2 If there is none in PLACE 0, the first in THE CART "
        + "(by RANK, that of BAGS: by their numbers) falls there.")
    static void terms2_nothingFallsOnAFullBelt() {
        // Four dozy ones whose bags fill the belt: the fifth bag falls when the first of them is gone and its gap at 0.
        LuggageBelt x = Due.belt("b4;d0,0;d1,0;d2,0;d3,0;c3,0;", 4);
        due("the belt is full", x.stand(2), 15);
        x.ticks(1);
        due("bag 0 is at 0", x.place(0), 0);
        due("nothing fell", x.stand(1), 16);
        x.ticks(4);
        due("bag 0 is taken at 0 only in this tick", x.stand(3), 1);
        due("nothing fell", x.stand(1), 16);
        x.ticks(3);
        due("bag 3 is at 0", x.place(0), 3);
        due("nothing fell", x.stand(1), 16);
        x.ticks(1);
        due("the gap is at 0: bag 4 falls", x.place(0), 4);
        due("the cart is empty", x.stand(1), 0);
    }

    @Sentence(at = "Terms 2", words = "2 If there is none in PLACE 0, the first in THE CART "
        + "(by RANK, that of BAGS: by their numbers) falls there.")
    static void terms2_nothingFallsFromAnEmptyCart() {
        LuggageBelt x = Due.belt("b4;d3,0;", 1);
        due("the cart is empty", x.stand(1), 0);
        x.ticks(1);
        due("place(0)", x.place(0), NONE);
        due("place(1)", x.place(1), 0);
        LuggageBelt y = Due.belt("b4;c0,0;", 1);
        due("nothing more is anywhere but taken", y.stand(3), 1);
        due("ticks(1)", y.ticks(1), 1);
        due("place(0)", y.place(0), NONE);
    }

    @Sentence(at = "Terms 2", words = "2 If there is none in PLACE 0, the first in THE CART "
        + "(by RANK, that of BAGS: by their numbers) falls there.")
    static void terms2_theLeastNumberInTheCartFalls() {
        LuggageBelt x = Due.belt("b6;c0,0;c0,0;c0,0;", 2);
        due("back(1)", x.back(1), 1);
        due("back(0)", x.back(0), 0);
        x.ticks(1);
        due("bag 0 falls first", x.stand(3), 1);
        x.ticks(1);
        due("then bag 1", x.stand(3), 3);
        x.ticks(1);
        due("then bag 2", x.stand(3), 7);
    }

    @Sentence(at = "Terms 2", words = "it SAW it once more (99 at most)")
    static void terms2_whatItSawIs99AtMost() {
        // Two shy ones side by side never take: 0 sees its own in ticks 1, 5, 9, .. the 99th time in tick 393.
        LuggageBelt x = Due.belt("b4;s0,0;s1,0;", 392);
        due("98 times", x.traveller(0, 3), 98);
        x.ticks(1);
        due("99 times", x.traveller(0, 3), 99);
        x.ticks(4);
        due("99 at most", x.traveller(0, 3), 99);
        due("the other one by and by", x.traveller(1, 3), 99);
        due("both together", x.count(5), 198);
        due("with(0, 60, 1)", x.with(0, 60, 1), 99);
        due("it WAITS yet", x.stand(4), 3);
    }

    @Sentence(at = "Terms 2", words = "a calm one, if it is its own")
    static void terms2_aCalmOneTakesNoOther() {
        LuggageBelt x = Due.belt("b4;c3,1;c1,1;", 2);
        due("bag 0 of its colour passes 1", x.place(1), 0);
        due("nobody is gone", x.stand(4), 3);
        due("its own comes", x.ticks(1), 2);
        due("with its own", x.traveller(1, 2), 1);
    }

    @Sentence(at = "Terms 2", words = "a shy one so, but only if nobody else WAITS at that STAND "
        + "or at a PLACE beside it (PLACES go round)")
    static void terms2_aShyOneTakesNothingIfOneWaitsAtItsStand() {
        due("at the same", Due.belt("b5;s2,0;d2,1;").all(3, 0), 0);
        due("alone", Due.belt("b5;s2,0;").all(3, 0), 1);
    }

    @Sentence(at = "Terms 2", words = "a shy one so, but only if nobody else WAITS at that STAND "
        + "or at a PLACE beside it (PLACES go round)")
    static void terms2_aShyOneTakesNothingIfOneWaitsBeside() {
        for (int places = 4; places <= 12; places++) {
            for (int stand = 0; stand < places; stand++) {
                for (int other = 0; other < places; other++) {
                    int apart = Math.floorMod(other - stand, places);
                    boolean isNear = apart <= 1 || apart == places - 1;
                    String text = "b" + places + ";s" + stand + ",0;d" + other + ",1;";
                    due("when its own passes first: " + text, Due.belt(text).all(stand + 1, 0), isNear ? 0 : 1);
                }
            }
        }
    }

    @Sentence(at = "Terms 2", words = "a shy one so, but only if nobody else WAITS at that STAND "
        + "or at a PLACE beside it (PLACES go round)")
    static void terms2_aShyOneTakesIfTheOneBesideIsGone() {
        // The calm one goes in tick 2, the shy one saw its own in tick 1 in vain and again in tick 6.
        LuggageBelt x = Due.belt("b5;s0,0;c0,1;", 1);
        due("in vain", x.stand(4), 3);
        due("the calm one", x.ticks(1), 2);
        due("not yet", x.ticks(3), 2);
        due("the shy one", x.ticks(1), 3);
        // By numbers: with the lesser number the calm one is gone within the same tick.
        due("in the same tick", Due.belt("b5;c1,0;s0,1;").ticks(2), 3);
    }

    @Sentence(at = "Terms 2", words = "a hasty one, if its COLOUR is that of its own")
    static void terms2_aHastyOneTakesWhatIsOfItsOwnsColourOnly() {
        for (int own = 0; own < 4; own++) {
            for (int other = 0; other < 4; other++) {
                LuggageBelt x = Due.belt("b6;c3," + other + ";h1," + own + ";", 2);
                due("bag of " + other + " by one of " + own, x.stand(3), own == other ? 1 : 0);
            }
        }
    }

    @Sentence(at = "Terms 2", words = "a slow one, if it is its own, and it SAW it 2 times or more")
    static void terms2_aSlowOneTakesItTheSecondTime() {
        LuggageBelt x = Due.belt("b4;l2,0;", 3);
        due("once", x.traveller(0, 3), 1);
        due("not yet", x.ticks(3), 0);
        due("twice", x.ticks(1), 1);
    }

    /** Two shy ones side by side whose bags go round: 0 SAW its own so often, and it comes by in the next tick. */
    private static LuggageBelt sawOften(int times) {
        LuggageBelt x = Due.belt("b4;s0,0;s1,0;", 4 * times);
        due("it SAW its own", x.traveller(0, 3), times);
        due("which is at the last place", x.bag(0, 1), 3);
        x.row(0, 0, 1);
        return x;
    }

    @Sentence(at = "Terms 2", words = "a slow one, if it is its own, and it SAW it 2 times or more")
    static void terms2_aSlowOneTakesItIfItSawItMoreThan2Times() {
        for (int times = 0; times < 6; times++) {
            LuggageBelt x = times == 0 ? Due.belt("b4;s0,0;s1,0;") : sawOften(times);
            x.row(0, 0, 1);
            x.set(0, 0, 30);
            due("seen " + times + " times ahead: calm, slow, dozy ones would take it", x.who(0, 0, 0, 0, 0, 1),
                1 << 1 | 1 << 3 | (times >= 1 ? 1 << 4 : 0) | (times >= 2 ? 1 << 5 : 0));
        }
    }

    @Sentence(at = "Terms 2", words = "a dozy one so, but 3 times")
    static void terms2_aDozyOneTakesItTheThirdTime() {
        LuggageBelt x = Due.belt("b4;d2,0;", 7);
        due("twice", x.traveller(0, 3), 2);
        due("not yet", x.ticks(3), 0);
        due("thrice", x.ticks(1), 1);
        LuggageBelt y = sawOften(98);
        y.set(0, 0, 30);
        due("seen 98 times ahead", y.who(0, 0, 0, 0, 0, 1), 1 << 1 | 1 << 3 | 1 << 4 | 1 << 5);
    }

    @Sentence(at = "Terms 2", words = "TICK is 1 more.")
    static void terms2_tickCounts() {
        LuggageBelt x = Due.belt("b4;c0,0;");
        due("count(3)", x.count(3), 0);
        x.ticks(1);
        due("count(3)", x.count(3), 1);
        x.ticks(24);
        due("count(3)", x.count(3), 25);
        due("nor does what is foretold count", x.all(60, 0), 1);
        due("count(3)", x.count(3), 25);
    }

    @Sentence(at = "Terms 2", words = "WRONG is a TRAVELLER that is GONE with a BAG that is not its own")
    static void terms2_whoIsGoneWithItsOwnOrWaitsIsNotWrong() {
        LuggageBelt x = Due.belt("b6;c3,1;h1,1;c0,0;", 3);
        due("waits", x.traveller(0, 4), 0);
        due("with another's", x.traveller(1, 4), 1);
        due("with its own", x.traveller(2, 4), 0);
        due("stand(5)", x.stand(5), 2);
    }

    @Sentence(at = "Terms 2", words = "ROBBED one that WAITS whose own BAG is TAKEN.")
    static void terms2_whoIsGoneIsNotRobbed() {
        // Bag 0 is taken by 1, bag 1 by 2, bag 2 by 3: all three owners but the first are gone themselves.
        LuggageBelt x = Due.belt("b6;c5,1;h1,1;h1,1;h1,1;", 2);
        due("bag 0 is taken by 1", x.traveller(1, 2), 0);
        due("robbed", x.stand(6), 1);
        x.ticks(1);
        due("bag 1 is taken by 2", x.traveller(2, 2), 1);
        due("1 is gone, not robbed", x.traveller(1, 5), 0);
        x.ticks(1);
        due("bag 2 is taken by 3", x.traveller(3, 2), 2);
        due("stand(6)", x.stand(6), 1);
        due("whose own is on the belt is not robbed", Due.belt("b6;c5,1;h1,2;", 2).stand(6), 0);
    }

    @Sentence(at = "Terms 2", words = "ACTS (24 at most are kept, of more the oldest is forgotten;")
    static void terms2_24ActsAreKept() {
        LuggageBelt x = Due.belt("b12;c11,0;");
        for (int i = 1; i <= 30; i++) {
            x.turn();
            due("count(6) behind " + i, x.count(6), Math.min(i, 24));
        }
    }

    @Sentence(at = "Terms 2", words = "ACTS (24 at most are kept, of more the oldest is forgotten;")
    static void terms2_theOldestActIsForgotten() {
        LuggageBelt x = Due.belt("b4;c3,0;");
        for (int i = 0; i < 3; i++) {
            due("paint", x.paint(0, i + 1), i);
        }
        x.ticks(23);
        due("count(6)", x.count(6), 24);
        for (int left = 23; left >= 0; left--) {
            due("undo()", x.undo(), left);
        }
        due("TICK", x.count(3), 0);
        due("the latest paint is undone, the two before it not", x.bag(0, 0), 2);
        due("undo()", x.undo(), STATE);
        due("the two before it stay", x.bag(0, 0), 2);
    }

    @Sentence(at = "Terms 2", words = "each can be undone, the latest first)")
    static void terms2_undoneThenDoneAnew() {
        // What comes behind an act that was undone takes its room.
        LuggageBelt x = Due.belt("b12;c11,0;");
        x.ticks(24);
        for (int i = 0; i < 10; i++) {
            x.undo();
        }
        due("count(6)", x.count(6), 14);
        for (int i = 0; i < 12; i++) {
            x.paint(0, i % 2 + 1);
        }
        due("count(6)", x.count(6), 24);
        for (int i = 0; i < 12; i++) {
            x.undo();
        }
        due("the colour as told", x.bag(0, 0), 0);
        due("TICK", x.count(3), 14);
        for (int left = 11; left >= 0; left--) {
            due("undo()", x.undo(), left);
        }
        due("the two oldest were forgotten", x.count(3), 2);
    }

    @Sentence(at = "Terms 2", words = "one that WAITS stands elsewhere (what it SAW stays)")
    static void terms2_whatItSawStaysWhereverItStands() {
        LuggageBelt x = Due.belt("b4;d0,0;", 1);
        due("move(0, 1)", x.move(0, 1), 0);
        due("once", x.traveller(0, 3), 1);
        x.ticks(1);
        due("move(0, 2)", x.move(0, 2), 1);
        due("twice", x.traveller(0, 3), 2);
        due("thrice", x.ticks(1), 1);
    }

    @Sentence(at = "Terms 2", words = "one that is GONE comes back (it WAITS, what it SAW is 0; its BAG is in THE CART)")
    static void terms2_whoComesBackBeginsAnew() {
        LuggageBelt x = Due.belt("b6;c3,1;h1,1;", 2);
        due("1 is gone with bag 0", x.traveller(1, 2), 0);
        due("back(1)", x.back(1), 0);
        due("it WAITS", x.traveller(1, 1), 1);
        due("at its STAND", x.traveller(1, 0), 1);
        due("what it SAW", x.traveller(1, 3), 0);
        due("the BAG it had is in THE CART", x.bag(0, 1), 20);
        due("its own is on THE BELT", x.bag(1, 1), 0);
        LuggageBelt y = Due.belt("b4;d0,0;", 9);
        due("what it SAW", y.traveller(0, 3), 3);
        due("back(0)", y.back(0), 0);
        due("what it SAW", y.traveller(0, 3), 0);
        due("when(0)", y.when(0), 9);
    }

    @Sentence(at = "Terms 2", words = "THE BELT is turned by hand (each BAG on it comes to the next PLACE, nothing else)")
    static void terms2_aTurnGoesRoundAndDoesNothingElse() {
        for (int places = 4; places <= 12; places++) {
            LuggageBelt x = Due.belt("b" + places + ";d0,0;c1,0;", 1);
            for (int turns = 1; turns <= places; turns++) {
                due("turn()", x.turn(), 1);
                due("bag(0, 1)", x.bag(0, 1), turns == places ? 0 : turns);
            }
            due("it SAW its own in the tick only", x.traveller(0, 3), 1);
            due("bag 1 is in THE CART", x.bag(1, 1), 20);
            due("TICK", x.count(3), 1);
        }
    }
}
