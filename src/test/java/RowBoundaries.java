/** Boundary cases of promises 2 to 5: ROWS. */
final class RowBoundaries implements Answers {
    private RowBoundaries() {
    }

    private static void due(String call, long got, long want) {
        Due.due(call, got, want);
    }

    /** Row 0 has the bytes 0, 1, 2, 3, row 1 five bytes, row 2 four shorts; bag 0 passes 0, 1, 2, .. from the next tick on. */
    private static LuggageBelt withRows() {
        LuggageBelt x = Due.belt("b12;c11,0;");
        x.row(0, 0, 4);
        x.row(1, 0, 5);
        x.row(2, 1, 4);
        for (int i = 0; i < 4; i++) {
            x.set(0, i, i);
        }
        return x;
    }

    /** Whether a row has from i on 0, 1, 2, .. */
    private static void counts(String what, LuggageBelt x, int row, int i, int n) {
        due(what, x.colours(0, row, i, n), 15);
    }

    // ---- 2 row

    @Sentence(at = "Promise 2", words = "A ROW of a LANE with n ITEMS, in place of what is there: n.")
    static void promise02_theLeastAndTheMostOfEach() {
        LuggageBelt x = new LuggageBelt();
        due("row(0, 0, 0)", x.row(0, 0, 0), 0);
        due("row(0, 0, 1)", x.row(0, 0, 1), 1);
        due("row(7, 2, 39)", x.row(7, 2, 39), 39);
        due("row(7, 2, 40)", x.row(7, 2, 40), 40);
        due("count(0)", x.count(0), 2);
    }

    @Sentence(at = "Promise 2", words = "A ROW of a LANE with n ITEMS, in place of what is there: n.")
    static void promise02_inPlaceOfALongerOne() {
        LuggageBelt x = withRows();
        due("row(0, 0, 2)", x.row(0, 0, 2), 2);
        due("set(0, 1, 1)", x.set(0, 1, 1), 1);
        due("set(0, 2, 2)", x.set(0, 2, 2), PLACE);
        counts("item 0 is 0", x, 0, 0, 2);
        due("row(0, 0, 3)", x.row(0, 0, 3), 3);
        due("item 1 is no more what it was", x.colours(0, 0, 0, 2), 0);
        due("of another lane", x.row(0, 1, 3), 3);
        due("copy to bytes", x.copy(0, 0, 1, 0, 1), STORE);
        due("copy to shorts", x.copy(0, 0, 2, 0, 1), 1);
        due("count(0)", x.count(0), 3);
    }

    @Sentence(at = "Promise 2", words = "BAD: ROW, LANE, n above 40; SIZE.")
    static void promise02_noSuchRowIsBad() {
        LuggageBelt x = new LuggageBelt();
        for (int row : new int[] {-1, 8, MIN, MAX}) {
            due("row(" + row + ", 0, 1)", x.row(row, 0, 1), BAD);
        }
        due("count(0)", x.count(0), 0);
    }

    @Sentence(at = "Promise 2", words = "BAD: ROW, LANE, n above 40; SIZE.")
    static void promise02_noSuchLaneIsBad() {
        LuggageBelt x = new LuggageBelt();
        for (int lane : new int[] {-1, 3, MIN, MAX}) {
            due("row(0, " + lane + ", 1)", x.row(0, lane, 1), BAD);
        }
        due("count(0)", x.count(0), 0);
    }

    @Sentence(at = "Promise 2", words = "BAD: ROW, LANE, n above 40; SIZE.")
    static void promise02_nAbove40IsBad() {
        LuggageBelt x = withRows();
        due("row(0, 1, 41)", x.row(0, 1, 41), BAD);
        due("row(0, 1, MAX)", x.row(0, 1, MAX), BAD);
        counts("what is there stays", x, 0, 0, 4);
        due("its lane stays", x.copy(0, 0, 1, 0, 4), 4);
        due("row(7, 0, 41)", x.row(7, 0, 41), BAD);
        due("drop(7)", x.drop(7), NULL);
    }

    @Sentence(at = "Promise 2", words = "BAD: ROW, LANE, n above 40; SIZE.")
    static void promise02_nBelow0IsSize() {
        LuggageBelt x = withRows();
        due("row(0, 1, -1)", x.row(0, 1, -1), SIZE);
        due("status()", x.status(), 4);
        due("row(0, 1, MIN)", x.row(0, 1, MIN), SIZE);
        counts("what is there stays", x, 0, 0, 4);
        due("its lane stays", x.copy(0, 0, 1, 0, 4), 4);
        due("row(7, 0, -1)", x.row(7, 0, -1), SIZE);
        due("drop(7)", x.drop(7), NULL);
        due("BAD comes first", x.row(8, 0, -1), BAD);
        due("BAD comes first", x.row(0, -1, -1), BAD);
    }

    // ---- 3 set

    @Sentence(at = "Promise 3", words = "ITEM i becomes v, its lowest bits, as many as the LANE has: what it is then.")
    static void promise03_bytesAreCutTo8Bits() {
        LuggageBelt x = new LuggageBelt();
        x.row(0, 0, 1);
        int[][] due = {{0, 0}, {127, 127}, {128, -128}, {255, -1}, {256, 0}, {257, 1}, {-1, -1}, {-128, -128}, {-129, 127},
            {MAX, -1}, {MIN, 0}};
        for (int[] one : due) {
            due("set(0, 0, " + one[0] + ")", x.set(0, 0, one[0]), one[1]);
        }
    }

    @Sentence(at = "Promise 3", words = "ITEM i becomes v, its lowest bits, as many as the LANE has: what it is then.")
    static void promise03_shortsAreCutTo16Bits() {
        LuggageBelt x = new LuggageBelt();
        x.row(0, 1, 1);
        int[][] due = {{255, 255}, {256, 256}, {32767, 32767}, {32768, -32768}, {65535, -1}, {65536, 0}, {65537, 1}, {-1, -1},
            {-32768, -32768}, {-32769, 32767}, {MAX, -1}, {MIN, 0}};
        for (int[] one : due) {
            due("set(0, 0, " + one[0] + ")", x.set(0, 0, one[0]), one[1]);
        }
    }

    @Sentence(at = "Promise 3", words = "ITEM i becomes v, its lowest bits, as many as the LANE has: what it is then.")
    static void promise03_intsAreNotCut() {
        LuggageBelt x = new LuggageBelt();
        x.row(0, 2, 1);
        for (int v : new int[] {0, -1, 65536, MAX, MIN}) {
            due("set(0, 0, " + v + ")", x.set(0, 0, v), v);
        }
    }

    @Sentence(at = "Promise 3", words = "ITEM i becomes v, its lowest bits, as many as the LANE has: what it is then.")
    static void promise03_theItemIsCutNotOnlyTheAnswer() {
        // The bag is at 0 in the next tick, as the item tells once it is cut.
        LuggageBelt x = Due.belt("b12;c11,0;");
        for (int lane = 0; lane < 3; lane++) {
            x.row(0, lane, 1);
            x.set(0, 0, 65536);
            due("65536 in lane " + lane, x.colours(0, 0, 0, 1), lane < 2 ? 15 : 0);
            x.set(0, 0, 256);
            due("256 in lane " + lane, x.colours(0, 0, 0, 1), lane < 1 ? 15 : 0);
        }
    }

    @Sentence(at = "Promise 3", words = "BAD: ROW; NULL; PLACE.")
    static void promise03_noSuchRowIsBad() {
        LuggageBelt x = withRows();
        for (int row : new int[] {-1, 8, MIN, MAX}) {
            due("set(" + row + ", 0, 0)", x.set(row, 0, 0), BAD);
        }
        due("status()", x.status(), 0);
    }

    @Sentence(at = "Promise 3", words = "BAD: ROW; NULL; PLACE.")
    static void promise03_aMissingRowIsNull() {
        LuggageBelt x = withRows();
        due("set(7, 0, 0)", x.set(7, 0, 0), NULL);
        due("set(7, -1, 0), ahead of PLACE", x.set(7, -1, 0), NULL);
        x.drop(0);
        due("set(0, 0, 0), dropped", x.set(0, 0, 0), NULL);
        due("status()", x.status(), 1);
    }

    @Sentence(at = "Promise 3", words = "BAD: ROW; NULL; PLACE.")
    static void promise03_beyondTheItemsIsPlace() {
        LuggageBelt x = withRows();
        due("the first", x.set(0, 0, 0), 0);
        due("the last", x.set(0, 3, 3), 3);
        for (int i : new int[] {-1, 4, 39, 40, MIN, MAX}) {
            due("set(0, " + i + ", 9)", x.set(0, i, 9), PLACE);
        }
        due("status()", x.status(), 2);
        counts("all items stay", x, 0, 0, 4);
        x.row(3, 2, 40);
        due("the last of 40", x.set(3, 39, 1), 1);
        due("beyond 40", x.set(3, 40, 1), PLACE);
        x.row(3, 2, 0);
        due("of none", x.set(3, 0, 1), PLACE);
    }

    // ---- 4 copy

    @Sentence(at = "Promise 4", words = "n ITEMS of a from i on come to b from j on, as they were ahead: n.")
    static void promise04_noneOneAndAll() {
        LuggageBelt x = withRows();
        due("none", x.copy(0, 0, 1, 0, 0), 0);
        due("none from the end to the end", x.copy(0, 4, 1, 5, 0), 0);
        due("all, to the end", x.copy(0, 0, 1, 1, 4), 4);
        counts("they came", x, 1, 1, 4);
        due("the last one to the first", x.copy(0, 3, 0, 0, 1), 1);
        due("the first is no more 0", x.colours(0, 0, 0, 1), 0);
        due("the second to the first", x.copy(1, 1, 0, 0, 1), 1);
        counts("and is again", x, 0, 0, 4);
        x.row(3, 2, 40);
        x.row(4, 2, 40);
        due("40", x.copy(3, 0, 4, 0, 40), 40);
        x.row(5, 2, 0);
        due("none of none", x.copy(5, 0, 5, 0, 0), 0);
    }

    @Sentence(at = "Promise 4", words = "as they were ahead: n.")
    static void promise04_ontoItself() {
        LuggageBelt x = withRows();
        due("one on", x.copy(0, 0, 0, 1, 3), 3);
        counts("as they were ahead", x, 0, 1, 3);
        due("one back", x.copy(0, 1, 0, 0, 3), 3);
        counts("as they were ahead", x, 0, 0, 3);
        due("in place", x.copy(0, 0, 0, 0, 4), 4);
        counts("as they were ahead", x, 0, 0, 3);
    }

    @Sentence(at = "Promise 4", words = "BAD: ROWS; NULL; STORE; PLACE (i, j, n below 0, or beyond an end).")
    static void promise04_noSuchRowsAreBad() {
        LuggageBelt x = withRows();
        for (int row : new int[] {-1, 8, MIN, MAX}) {
            due("from " + row, x.copy(row, 0, 0, 0, 1), BAD);
            due("to " + row, x.copy(0, 0, row, 0, 1), BAD);
            due("to " + row + " from a missing one", x.copy(7, 0, row, 0, 1), BAD);
            due("from " + row + " to a missing one", x.copy(row, 0, 7, 0, 1), BAD);
        }
    }

    @Sentence(at = "Promise 4", words = "BAD: ROWS; NULL; STORE; PLACE (i, j, n below 0, or beyond an end).")
    static void promise04_missingRowsAreNull() {
        LuggageBelt x = withRows();
        due("from a missing one", x.copy(7, 0, 0, 0, 1), NULL);
        due("to a missing one", x.copy(0, 0, 7, 0, 1), NULL);
        due("from and to missing ones", x.copy(6, 0, 7, 0, 1), NULL);
        due("none of a missing one", x.copy(7, 0, 0, 0, 0), NULL);
        due("ahead of PLACE", x.copy(0, -1, 7, 0, 1), NULL);
        due("ahead of PLACE", x.copy(7, 0, 0, 0, -1), NULL);
        due("status()", x.status(), 1);
    }

    @Sentence(at = "Promise 4", words = "BAD: ROWS; NULL; STORE; PLACE (i, j, n below 0, or beyond an end).")
    static void promise04_twoLanesAreStore() {
        LuggageBelt x = withRows();
        due("bytes to shorts", x.copy(0, 0, 2, 0, 1), STORE);
        due("shorts to bytes", x.copy(2, 0, 0, 0, 1), STORE);
        due("none of them", x.copy(0, 0, 2, 0, 0), STORE);
        due("ahead of PLACE", x.copy(0, -1, 2, 0, 1), STORE);
        due("ahead of PLACE", x.copy(0, 0, 2, 9, 1), STORE);
        due("ahead of PLACE", x.copy(0, 0, 2, 0, MIN), STORE);
        due("status()", x.status(), 5);
        x.drop(2);
        due("dropped", x.copy(0, 0, 2, 0, 1), NULL);
    }

    @Sentence(at = "Promise 4", words = "BAD: ROWS; NULL; STORE; PLACE (i, j, n below 0, or beyond an end).")
    static void promise04_below0IsPlace() {
        LuggageBelt x = withRows();
        for (int below : new int[] {-1, MIN}) {
            due("i", x.copy(0, below, 1, 0, 1), PLACE);
            due("j", x.copy(0, 0, 1, below, 1), PLACE);
            due("n", x.copy(0, 0, 1, 0, below), PLACE);
            due("i, of none", x.copy(0, below, 1, 0, 0), PLACE);
            due("j, of none", x.copy(0, 0, 1, below, 0), PLACE);
        }
        due("i and n that make up for one another", x.copy(0, -1, 1, 0, 2), PLACE);
        due("status()", x.status(), 2);
    }

    @Sentence(at = "Promise 4", words = "BAD: ROWS; NULL; STORE; PLACE (i, j, n below 0, or beyond an end).")
    static void promise04_beyondAnEndIsPlace() {
        LuggageBelt x = withRows();
        due("to the end of a", x.copy(0, 1, 1, 0, 3), 3);
        due("beyond the end of a", x.copy(0, 1, 1, 0, 4), PLACE);
        due("beyond the end of a, at it", x.copy(0, 4, 1, 0, 1), PLACE);
        due("beyond the end of a, of none", x.copy(0, 5, 1, 0, 0), PLACE);
        due("to the end of b", x.copy(0, 0, 1, 2, 3), 3);
        due("beyond the end of b", x.copy(0, 0, 1, 2, 4), PLACE);
        due("beyond the end of b, of none", x.copy(0, 0, 1, 6, 0), PLACE);
        due("the sum comes round, a", x.copy(0, MAX, 1, 0, MAX), PLACE);
        due("the sum comes round, a", x.copy(0, 1, 1, 0, MAX), PLACE);
        due("the sum comes round, b", x.copy(0, 0, 1, MAX, 1), PLACE);
        due("the sum comes round, b", x.copy(0, 0, 1, MAX, 4), PLACE);
        counts("what is found leaves b", x, 1, 2, 3);
    }

    // ---- 5 drop

    @Sentence(at = "Promise 5", words = "A ROW is missing from now on: how many ITEMS it had.")
    static void promise05_ofNoneAndOf40() {
        LuggageBelt x = new LuggageBelt();
        x.row(0, 0, 0);
        x.row(7, 2, 40);
        due("of none", x.drop(0), 0);
        due("of 40", x.drop(7), 40);
        due("count(0)", x.count(0), 0);
        due("missing", x.drop(0), NULL);
        due("missing", x.drop(7), NULL);
        due("there again", x.row(7, 0, 1), 1);
        due("of 1", x.drop(7), 1);
    }

    @Sentence(at = "Promise 5", words = "BAD; NULL.")
    static void promise05_noSuchRowIsBad() {
        LuggageBelt x = withRows();
        for (int row : new int[] {-1, 8, MIN, MAX}) {
            due("drop(" + row + ")", x.drop(row), BAD);
        }
        due("count(0)", x.count(0), 3);
        due("status()", x.status(), 0);
    }

    @Sentence(at = "Promise 5", words = "BAD; NULL.")
    static void promise05_aMissingRowIsNull() {
        LuggageBelt x = withRows();
        due("drop(7)", x.drop(7), NULL);
        due("status()", x.status(), 1);
        due("drop(0)", x.drop(0), 4);
        due("status()", x.status(), 0);
        due("drop(0)", x.drop(0), NULL);
        due("count(0)", x.count(0), 2);
    }
}
