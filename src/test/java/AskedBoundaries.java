/** Boundary cases of promises 36 to 41: what is asked. */
final class AskedBoundaries implements Answers {
    private static final int[] NOT_ONE_OF_FIVE = {-1, 5, 6, MIN, MAX};
    private static final String ALL_KINDS = "b12;c2,0;s5,1;h8,2;l10,3;d0,3;";

    private AskedBoundaries() {
    }

    private static void due(String call, long got, long want) {
        Due.due(call, got, want);
    }

    // ---- 36 kind

    @Sentence(at = "Promise 36", words = "The KIND of a TRAVELLER, as told (1 to 5).")
    static void promise36_kinds1To5() {
        LuggageBelt x = Due.belt(ALL_KINDS);
        for (int one = 0; one < 5; one++) {
            due("kind(" + one + ")", x.kind(one), one + 1);
        }
        x.ticks(3);
        due("gone", x.kind(0), 1);
    }

    @Sentence(at = "Promise 36", words = "BAD.")
    static void promise36_noSuchTravellerIsBad() {
        LuggageBelt x = Due.belt(ALL_KINDS);
        for (int one : NOT_ONE_OF_FIVE) {
            due("kind(" + one + ")", x.kind(one), BAD);
        }
        due("no HALL", new LuggageBelt().kind(0), BAD);
    }

    // ---- 37 as

    @Sentence(at = "Promise 37", words = "A TRAVELLER is taken as one of a KIND (0 .. 5): its number.")
    static void promise37_asATravellerAndAsWhatItIs() {
        LuggageBelt x = Due.belt(ALL_KINDS);
        for (int one = 0; one < 5; one++) {
            due("as(" + one + ", 0)", x.as(one, 0), one);
            due("as(" + one + ", its kind)", x.as(one, one + 1), one);
            due("status()", x.status(), 0);
        }
    }

    @Sentence(at = "Promise 37", words = "BAD; KIND: it is no such one.")
    static void promise37_whatIsNotAsToldIsBad() {
        LuggageBelt x = Due.belt(ALL_KINDS);
        for (int one : NOT_ONE_OF_FIVE) {
            due("as(" + one + ", 0)", x.as(one, 0), BAD);
        }
        for (int kind : new int[] {-1, 6, MIN, MAX}) {
            due("as(0, " + kind + ")", x.as(0, kind), BAD);
            due("as(4, " + kind + ")", x.as(4, kind), BAD);
        }
        due("no HALL", new LuggageBelt().as(0, 0), BAD);
        due("status()", x.status(), 0);
    }

    @Sentence(at = "Promise 37", words = "BAD; KIND: it is no such one.")
    static void promise37_noSuchOneIsKind() {
        LuggageBelt x = Due.belt(ALL_KINDS);
        due("a calm one is no shy one", x.as(0, 2), KIND);
        due("status()", x.status(), 3);
        due("a calm one is no hasty one", x.as(0, 3), KIND);
        due("a shy one is no hasty one", x.as(1, 3), KIND);
        due("a hasty one is no shy one", x.as(2, 2), KIND);
        due("a slow one is no dozy one", x.as(3, 5), KIND);
        due("a slow one is no calm one", x.as(3, 1), KIND);
        due("a dozy one is no calm one", x.as(4, 1), KIND);
        due("a dozy one is a slow one", x.as(4, 4), 4);
        due("status()", x.status(), 0);
    }

    // ---- 38 ask

    @Sentence(at = "Promise 38", words = "An ASK (0, 1) of a TRAVELLER. BAD.")
    static void promise38_whatIsNotAsToldIsBad() {
        LuggageBelt x = Due.belt(ALL_KINDS);
        for (int one : NOT_ONE_OF_FIVE) {
            due("ask(" + one + ", 0)", x.ask(one, 0), BAD);
            due("ask(" + one + ", 1)", x.ask(one, 1), BAD);
        }
        for (int what : new int[] {-1, 2, MIN, MAX}) {
            due("ask(0, " + what + ")", x.ask(0, what), BAD);
        }
        due("no HALL", new LuggageBelt().ask(0, 0), BAD);
        due("no trace is left", x.trace(0), NONE);
    }

    @Sentence(at = "Promise 38", words = "THE TRACE is empty ahead of it.")
    static void promise38_theTraceIsOfTheLatestAsk() {
        LuggageBelt x = Due.belt(ALL_KINDS);
        x.ask(1, 0);
        due("trace(5)", x.trace(5), 20);
        x.ask(3, 0);
        due("trace(0)", x.trace(0), 13);
        due("trace(1)", x.trace(1), 10);
        due("trace(2)", x.trace(2), NONE);
        due("refused", x.ask(5, 0), BAD);
        due("what is refused leaves it", x.trace(0), 13);
    }

    // ---- 39 trace

    @Sentence(at = "Promise 39", words = "Number i of THE TRACE; NONE.")
    static void promise39_beyondTheTraceIsNone() {
        LuggageBelt x = Due.belt(ALL_KINDS);
        for (int i : new int[] {0, -1, 1, MIN, MAX}) {
            due("trace(" + i + "), none yet", x.trace(i), NONE);
        }
        x.ask(0, 1);
        due("trace(0)", x.trace(0), 21);
        due("trace(1)", x.trace(1), 20);
        for (int i : new int[] {2, 15, 16, 17, -1, MIN, MAX}) {
            due("trace(" + i + ")", x.trace(i), NONE);
        }
    }

    @Sentence(at = "Promise 39", words = "Number i of THE TRACE; NONE.")
    static void promise39_allNumbersOfEachAsk() {
        LuggageBelt x = Due.belt(ALL_KINDS);
        int[][] traces = {{11, 10, 21, 20}, {21, 20}, {12, 11, 10, 24, 21, 20}, {24, 21, 20}, {11, 10, 22, 21, 20}, {22, 21, 20},
            {13, 10}, {23, 20, 13, 10}, {14, 13, 10}, {23, 20, 14, 13, 10}};
        for (int k = 0; k < traces.length; k++) {
            x.ask(k / 2, k % 2);
            for (int i = 0; i < traces[k].length; i++) {
                due("trace(" + i + ") of ask(" + k / 2 + ", " + k % 2 + ")", x.trace(i), traces[k][i]);
            }
            due("no more of ask(" + k / 2 + ", " + k % 2 + ")", x.trace(traces[k].length), NONE);
        }
    }

    // ---- 40 count

    @Sentence(at = "Promise 40", words = "0 ROWS, 1 TRAVELLERS, 2 PLACES, 3 TICK, 4 how many are GONE, "
        + "5 what all SAW together, 6 ACTS that can be undone, 7 bytes on the tape.")
    static void promise40_fromNoneToTheMost() {
        LuggageBelt x = Due.belt("b12;c0,0;c0,0;c0,0;c0,0;c0,0;c0,0;");
        int[] atFirst = {0, 6, 12, 0, 0, 0, 0, 0};
        for (int what = 0; what < 8; what++) {
            due("count(" + what + ")", x.count(what), atFirst[what]);
        }
        for (int row = 0; row < 8; row++) {
            x.row(row, 0, 0);
        }
        for (int i = 0; i < 110; i++) {
            x.feed(0);
        }
        Due.go(x, 999);
        int[] atLast = {8, 6, 12, 999, 6, 6, 24, 110};
        for (int what = 0; what < 8; what++) {
            due("count(" + what + ")", x.count(what), atLast[what]);
        }
    }

    @Sentence(at = "Promise 40", words = "BAD.")
    static void promise40_noSuchNumberIsBad() {
        LuggageBelt x = Due.belt(ALL_KINDS);
        for (int what : new int[] {-1, 8, MIN, MAX}) {
            due("count(" + what + ")", x.count(what), BAD);
            due("count(" + what + "), no HALL", new LuggageBelt().count(what), BAD);
        }
    }

    // ---- 41 status

    @Sentence(at = "Promise 41", words = "the number of its FINDING; 0: it had none, or there was none.")
    static void promise41_0AtFirstAndWhenThereWasNone() {
        LuggageBelt x = Due.belt(ALL_KINDS);
        due("no such call yet", x.status(), 0);
        x.drop(0);
        due("NULL", x.status(), 1);
        x.row(0, 0, 1);
        due("row had none", x.status(), 0);
        x.drop(7);
        x.set(0, 0, 0);
        due("set had none", x.status(), 0);
        x.drop(7);
        x.copy(0, 0, 0, 0, 1);
        due("copy had none", x.status(), 0);
        x.drop(7);
        x.who(0, 0, 0, 0, 0, 1);
        due("who had none", x.status(), 0);
        x.drop(7);
        x.who(0, 1, 0, 0, 0, 1);
        due("who, of stands, had none", x.status(), 0);
        x.drop(7);
        x.colours(0, 0, 0, 1);
        due("colours had none", x.status(), 0);
        x.drop(7);
        x.as(0, 0);
        due("as had none", x.status(), 0);
        x.drop(7);
        due("NULL", x.status(), 1);
        x.drop(0);
        due("drop had none", x.status(), 0);
    }

    @Sentence(at = "Promise 41", words = "Of the latest call with a ROW, or as(), that was not BAD, STATE, FULL")
    static void promise41_badLeavesIt() {
        LuggageBelt x = Due.belt(ALL_KINDS);
        x.row(0, 0, -1);
        due("SIZE", x.status(), 4);
        x.row(8, 0, 1);
        x.row(0, 0, 41);
        x.set(8, 0, 0);
        x.copy(8, 0, 8, 0, 0);
        x.drop(8);
        x.who(0, 0, 0, 8, 0, 1);
        x.who(5, 0, 0, 0, 0, 1);
        x.colours(0, 8, 0, 1);
        x.colours(5, 0, 0, 1);
        x.as(5, 0);
        x.as(0, 6);
        due("SIZE yet", x.status(), 4);
    }

    @Sentence(at = "Promise 41", words = "Of the latest call with a ROW, or as(), that was not BAD, STATE, FULL")
    static void promise41_callsWithoutARowLeaveIt() {
        LuggageBelt x = Due.belt(ALL_KINDS);
        x.as(0, 5);
        due("KIND", x.status(), 3);
        x.ticks(3);
        x.move(1, 0);
        x.paint(1, 0);
        x.back(0);
        x.turn();
        x.undo();
        x.image(0);
        x.restore(0);
        x.restore(1);
        x.ask(0, 0);
        x.kind(0);
        x.count(0);
        x.order(40, 0);
        x.feed(0);
        x.feed(256);
        x.hall();
        due("KIND yet", x.status(), 3);
        Due.tell(x, "b4;c0,0;");
        due("KIND behind another HALL", x.status(), 3);
        due("status() itself leaves it", x.status(), 3);
    }

    @Sentence(at = "Promise 41", words = "the number of its FINDING; 0: it had none, or there was none.")
    static void promise41_eachFinding1To5() {
        LuggageBelt x = Due.belt(ALL_KINDS);
        x.row(0, 0, 1);
        x.row(1, 1, 1);
        x.set(7, 0, 0);
        due("NULL", x.status(), 1);
        x.set(0, 1, 0);
        due("PLACE", x.status(), 2);
        x.as(0, 4);
        due("KIND", x.status(), 3);
        x.row(0, 0, -1);
        due("SIZE", x.status(), 4);
        x.copy(0, 0, 1, 0, 1);
        due("STORE", x.status(), 5);
    }
}
