/** Boundary cases of the document's beginning and of its Terms: what all calls have in common, ROWS, TEXTS, ASKS. */
final class TermsBoundaries implements Answers {
    private static final String SIX = "b4;c0,0;c1,0;s2,0;h3,0;l0,0;d1,0;";

    private TermsBoundaries() {
    }

    private static void due(String call, long got, long want) {
        Due.due(call, got, want);
    }

    // ---- what it is

    @Sentence(at = "What it is", words = "An object is used for at most 512 calls after it has been made")
    static void whatItIs_the512thCallAnswersAsTheFirst() {
        LuggageBelt x = Due.belt("b4;d0,0;s2,1;");
        int calls = "b4;d0,0;s2,1;".length() + 1;
        due("ticks(1)", x.ticks(1), 0);
        calls++;
        while (calls + 2 < 512) {
            due("ticks(1)", x.ticks(1), 0);
            due("undo()", x.undo(), 1);
            calls += 2;
        }
        while (calls < 511) {
            x.count(0);
            calls++;
        }
        due("the 512th call: ticks(3)", x.ticks(3), 2);
        LuggageBelt y = Due.belt("b4;d0,0;");
        for (int i = 9; i < 511; i++) {
            y.image(i & 1);
        }
        due("the 512th call: order(40, 0)", y.order(40, 0), 0);
    }

    // ---- Terms, ahead of part 1

    @Sentence(at = "Terms", words = "Numbers go from 0 on.")
    static void terms_theFirstTravellerBagAndPlaceAre0() {
        LuggageBelt x = Due.belt("b4;c3,2;");
        due("traveller(-1, 0)", x.traveller(-1, 0), BAD);
        due("traveller(0, 0)", x.traveller(0, 0), 3);
        due("traveller(1, 0)", x.traveller(1, 0), BAD);
        due("bag(-1, 0)", x.bag(-1, 0), BAD);
        due("bag(0, 0)", x.bag(0, 0), 2);
        due("bag(1, 0)", x.bag(1, 0), BAD);
        due("place(-1)", x.place(-1), BAD);
        due("place(0)", x.place(0), NONE);
        due("place(3)", x.place(3), NONE);
        due("place(4)", x.place(4), BAD);
    }

    @Sentence(at = "Terms", words = "All that is divided is cut towards 0")
    static void terms_dividedIsCut() {
        // Both calm ones saw their own once: of 5 each gets 2, and the one that is over goes to the first.
        LuggageBelt x = Due.belt("b6;c0,0;c0,0;", 2);
        due("share(0, 5)", x.share(0, 5), 3);
        due("share(1, 5)", x.share(1, 5), 2);
        due("share(0, 1)", x.share(0, 1), 1);
        due("share(1, 1)", x.share(1, 1), 0);
    }

    @Sentence(at = "Terms", words = "fractions, told as two numbers in lowest terms")
    static void terms_fractionsAreInLowestTerms() {
        LuggageBelt x = Due.belt("b6;c3,1;h1,1;");
        due("4 of 10, above", x.sleep(0, 2, 4, 0), 2);
        due("4 of 10, below", x.sleep(0, 2, 4, 1), 5);
        due("10 of 10, above", x.sleep(0, 2, 10, 0), 1);
        due("10 of 10, below", x.sleep(0, 2, 10, 1), 1);
        due("16 of 100, above", x.sleep(0, 60, 4, 0), 4);
        due("16 of 100, below", x.sleep(0, 60, 4, 1), 25);
    }

    @Sentence(at = "Terms", words = "(0 is 0 by 1)")
    static void terms_theFraction0Is0By1() {
        LuggageBelt x = Due.belt("b6;c3,1;h1,1;");
        due("sleep(0, 0, 5, 0)", x.sleep(0, 0, 5, 0), 0);
        due("sleep(0, 0, 5, 1)", x.sleep(0, 0, 5, 1), 1);
        due("sleep(0, 60, 0, 0)", x.sleep(0, 60, 0, 0), 0);
        due("sleep(0, 60, 0, 1)", x.sleep(0, 60, 0, 1), 1);
    }

    @Sentence(at = "Terms", words = "Sets are bits.")
    static void terms_setsAreBitsFromNoneToAllSix() {
        LuggageBelt x = Due.belt("b4;c0,0;c0,0;c0,0;c0,0;c0,0;c0,0;");
        due("nobody gone", x.all(0, 0), 0);
        due("0 gone", x.ticks(1), 1);
        due("0 and 1 gone", x.ticks(1), 3);
        due("all six gone", x.ticks(4), 63);
        due("nobody waits", x.stand(4), 0);
    }

    @Sentence(at = "Terms", words = "Refusals are answers, the first of these that fits, but as told: "
        + "BAD (a number is not as told; there is no such thing), STATE (as told), FULL (as told), then FINDINGS")
    static void terms_badComesAheadOfState() {
        due("image(2), no HALL", new LuggageBelt().image(2), BAD);
        due("restore(-1), none kept", new LuggageBelt().restore(-1), BAD);
        LuggageBelt x = Due.belt("b4;c0,0;c3,0;", 1);
        due("move(0, 4), it is GONE", x.move(0, 4), BAD);
        due("best(0, 0, 0), it is GONE", x.best(0, 0, 0), BAD);
        due("best(0, 61, 0), it is GONE", x.best(0, 61, 0), BAD);
        due("best(0, 1, 2), it is GONE", x.best(0, 1, 2), BAD);
    }

    @Sentence(at = "Terms", words = "Refusals are answers, the first of these that fits, but as told: "
        + "BAD (a number is not as told; there is no such thing), STATE (as told), FULL (as told), then FINDINGS")
    static void terms_badComesAheadOfFull() {
        LuggageBelt x = new LuggageBelt();
        for (int i = 0; i < 110; i++) {
            x.feed(0);
        }
        due("feed(256), the tape is full", x.feed(256), BAD);
        due("feed(-1), the tape is full", x.feed(-1), BAD);
        LuggageBelt y = Due.belt("b4;c0,0;", 999);
        due("ticks(25) at 999", y.ticks(25), BAD);
        due("ticks(0) at 999", y.ticks(0), BAD);
        due("ticks(1) at 999", y.ticks(1), FULL);
    }

    @Sentence(at = "Terms", words = "Refusals are answers, the first of these that fits, but as told: "
        + "BAD (a number is not as told; there is no such thing), STATE (as told), FULL (as told), then FINDINGS")
    static void terms_badComesAheadOfFindings() {
        LuggageBelt x = Due.belt("b4;c0,0;");
        due("row(8, 0, -1)", x.row(8, 0, -1), BAD);
        due("row(0, 3, -1)", x.row(0, 3, -1), BAD);
        due("copy(0, 0, 8, 0, 0), 0 is missing", x.copy(0, 0, 8, 0, 0), BAD);
        due("who(1, ..), the row is missing", x.who(1, 0, 0, 0, 0, 1), BAD);
        due("who(.., 13), the row is missing", x.who(0, 0, 0, 0, 0, 13), BAD);
        due("colours(1, ..), the row is missing", x.colours(1, 0, 0, 1), BAD);
        due("as(1, 5)", x.as(1, 5), BAD);
        due("as(0, 6)", x.as(0, 6), BAD);
        due("status()", x.status(), 0);
    }

    @Sentence(at = "Terms", words = "then FINDINGS, of several the first in time")
    static void terms_ofSeveralFindingsTheFirst() {
        LuggageBelt x = Due.belt("b4;c0,0;");
        x.row(0, 0, 2);
        x.row(1, 1, 2);
        due("NULL ahead of PLACE, set", x.set(2, 9, 0), NULL);
        due("NULL ahead of PLACE, copy", x.copy(0, 9, 2, 0, 1), NULL);
        due("NULL ahead of PLACE, copy of none", x.copy(2, 0, 0, 0, -1), NULL);
        due("STORE ahead of PLACE", x.copy(0, 9, 1, 0, 1), STORE);
        due("NULL ahead of PLACE, who", x.who(0, 0, 0, 2, 9, 1), NULL);
        due("NULL ahead of PLACE, colours", x.colours(0, 2, -1, 1), NULL);
    }

    @Sentence(at = "Terms", words = "-1000010 less 1 NULL (a ROW that is missing)")
    static void terms_nullIsFinding1() {
        LuggageBelt x = new LuggageBelt();
        due("drop(0)", x.drop(0), -1000011);
        due("status()", x.status(), 1);
    }

    @Sentence(at = "Terms", words = "2 PLACE (no such place of a ROW)")
    static void terms_placeIsFinding2() {
        LuggageBelt x = new LuggageBelt();
        x.row(0, 0, 0);
        due("set(0, 0, 0) of no ITEMS", x.set(0, 0, 0), -1000012);
        due("status()", x.status(), 2);
    }

    @Sentence(at = "Terms", words = "3 KIND (a TRAVELLER that is not that)")
    static void terms_kindIsFinding3() {
        LuggageBelt x = Due.belt("b4;c0,0;");
        due("as(0, 4)", x.as(0, 4), -1000013);
        due("status()", x.status(), 3);
    }

    @Sentence(at = "Terms", words = "4 SIZE (fewer than none)")
    static void terms_sizeIsFinding4() {
        LuggageBelt x = new LuggageBelt();
        due("row(0, 0, 0)", x.row(0, 0, 0), 0);
        due("row(0, 0, -1)", x.row(0, 0, -1), -1000014);
        due("status()", x.status(), 4);
    }

    @Sentence(at = "Terms", words = "5 STORE (ROWS of two LANES)")
    static void terms_storeIsFinding5() {
        LuggageBelt x = new LuggageBelt();
        for (int lane = 0; lane < 3; lane++) {
            x.row(lane, lane, 1);
        }
        for (int a = 0; a < 3; a++) {
            for (int b = 0; b < 3; b++) {
                due("copy(" + a + ", 0, " + b + ", 0, 1)", x.copy(a, 0, b, 0, 1), a == b ? 1 : -1000015);
                due("status()", x.status(), a == b ? 0 : 5);
            }
        }
    }

    /** Bag 0 is taken by 1, bag 2 by 2, bag 1 goes round; a tape, rows, an image and a trace are there. */
    private static LuggageBelt muchDone() {
        LuggageBelt x = Due.belt("b6;c3,1;h1,1;c0,0;", 3);
        x.row(0, 0, 4);
        x.row(1, 1, 2);
        for (int i = 0; i < 4; i++) {
            x.set(0, i, i + 2);
        }
        x.feed('b');
        x.feed('4');
        x.paint(1, 2);
        x.ask(1, 0);
        x.image(1);
        return x;
    }

    @Sentence(at = "Terms", words = "What is refused, or found, changes nothing but status().")
    static void terms_whatIsRefusedOfTheHallChangesNothing() {
        LuggageBelt x = muchDone();
        String before = Picture.of(x);
        String hall = Picture.ofHall(x);
        int[] answers = {x.feed(-1), x.feed(256), x.ticks(0), x.ticks(25), x.move(3, 0), x.move(0, 6), x.move(0, -1),
            x.paint(3, 0), x.paint(0, 4), x.paint(-1, 0), x.paint(0, -1), x.back(3), x.back(-1), x.image(2), x.image(-1),
            x.restore(2), x.restore(-1), x.ask(3, 0), x.ask(0, 2), x.best(0, 61, 0), x.order(41, 0), x.marks(41, 0),
            x.byTurns(5, 1), x.drawn(61, 1, 0), x.who(3, 0, 0, 0, 0, 1), x.colours(3, 0, 0, 1), x.as(3, 0)};
        for (int i = 0; i < answers.length; i++) {
            due("refused " + i, answers[i], BAD);
        }
        due("move(1, 0), it is GONE", x.move(1, 0), STATE);
        due("move(0, 3), it stands there", x.move(0, 3), STATE);
        due("back(0), it WAITS", x.back(0), STATE);
        due("best(1, 1, 0), it is GONE", x.best(1, 1, 0), STATE);
        due("restore(0), none was kept", x.restore(0), STATE);
        Due.holds("all is as it was", before.equals(Picture.of(x)));
        due("undo()", x.undo(), 3);
        due("the paint is undone", x.bag(1, 0), 1);
        due("restore(1)", x.restore(1), 1);
        Due.holds("the image is as it was", hall.equals(Picture.ofHall(x)));
    }

    @Sentence(at = "Terms", words = "What is refused, or found, changes nothing but status().")
    static void terms_whatIsFoundChangesNothingButStatus() {
        LuggageBelt x = muchDone();
        String before = Picture.of(x);
        int[] found = {x.row(0, 0, -1), x.set(7, 0, 0), x.set(0, 4, 0), x.copy(0, 0, 7, 0, 1), x.copy(0, 0, 1, 0, 1),
            x.copy(0, 1, 0, 0, 4), x.drop(7), x.as(0, 2), x.who(0, 0, 0, 7, 0, 1), x.colours(0, 0, 4, 1)};
        int[] due = {SIZE, NULL, PLACE, NULL, STORE, PLACE, NULL, KIND, NULL, PLACE};
        for (int i = 0; i < found.length; i++) {
            due("found " + i, found[i], due[i]);
        }
        due("status()", x.status(), 2);
        Due.holds("all is as it was", before.equals(Picture.of(x)));
        // Bag 1 is at 1 now and comes to 2, 3, 4, 5, as the row tells.
        due("the items are as they were", x.colours(1, 0, 0, 4), 15);
        due("as many as there were", x.drop(0), 4);
    }

    @Sentence(at = "Terms", words = "What is refused, or found, changes nothing but status().")
    static void terms_fullChangesNothing() {
        LuggageBelt x = Due.belt("b4;c0,0;", 990);
        String before = Picture.of(x);
        due("ticks(10)", x.ticks(10), FULL);
        Due.holds("all is as it was", before.equals(Picture.of(x)));
        for (int i = 0; i < 110; i++) {
            x.feed('b');
        }
        before = Picture.of(x);
        due("feed(52)", x.feed('4'), FULL);
        Due.holds("the tape is as it was", before.equals(Picture.of(x)));
    }

    // ---- Terms 1: ROWS

    @Sentence(at = "Terms 1", words = "ROWS 0 .. 7 are missing (at first)")
    static void terms1_rows0To7AreMissingAtFirst() {
        LuggageBelt x = new LuggageBelt();
        for (int row = 0; row < 8; row++) {
            due("drop(" + row + ")", x.drop(row), NULL);
            due("set(" + row + ", 0, 0)", x.set(row, 0, 0), NULL);
            due("copy from and to " + row, x.copy(row, 0, row, 0, 0), NULL);
        }
        due("drop(-1)", x.drop(-1), BAD);
        due("drop(8)", x.drop(8), BAD);
        due("count(0)", x.count(0), 0);
        for (int row = 0; row < 8; row++) {
            due("row(" + row + ", 0, 1)", x.row(row, 0, 1), 1);
            due("count(0)", x.count(0), row + 1);
        }
    }

    @Sentence(at = "Terms 1", words = "a LANE (0 bytes, 1 shorts, 2 ints)")
    static void terms1_lanesHoldBytesShortsInts() {
        LuggageBelt x = new LuggageBelt();
        int[] least = {-128, -32768, MIN};
        int[] most = {127, 32767, MAX};
        for (int lane = 0; lane < 3; lane++) {
            due("row(0, " + lane + ", 1)", x.row(0, lane, 1), 1);
            due("the least of lane " + lane, x.set(0, 0, least[lane]), least[lane]);
            due("the most of lane " + lane, x.set(0, 0, most[lane]), most[lane]);
            due("one less than the least comes round", x.set(0, 0, least[lane] - 1), most[lane]);
            due("one more than the most comes round", x.set(0, 0, most[lane] + 1), least[lane]);
        }
        due("row(0, -1, 1)", x.row(0, -1, 1), BAD);
        due("row(0, 3, 1)", x.row(0, 3, 1), BAD);
    }

    @Sentence(at = "Terms 1", words = "0 to 40 ITEMS")
    static void terms1_rowsHave0To40Items() {
        LuggageBelt x = new LuggageBelt();
        for (int lane = 0; lane < 3; lane++) {
            due("of none", x.row(lane, lane, 0), 0);
            due("of none there is no first", x.set(lane, 0, 1), PLACE);
            due("of 40", x.row(lane, lane, 40), 40);
            due("the last of 40", x.set(lane, 39, 1), 1);
            due("no 41st", x.set(lane, 40, 1), PLACE);
            due("of 41", x.row(lane, lane, 41), BAD);
            due("of fewer than none", x.row(lane, lane, -1), SIZE);
        }
    }

    @Sentence(at = "Terms 1", words = "ITEMS, 0 at first")
    static void terms1_itemsAre0AtFirst() {
        // The bag comes to place 0 in the next tick: an item fits if it is 0.
        LuggageBelt x = Due.belt("b12;c11,0;");
        x.row(0, 0, 40);
        due("the first", x.colours(0, 0, 0, 1), 15);
        due("the last", x.colours(0, 0, 39, 1), 15);
        for (int i = 0; i < 40; i++) {
            x.set(0, i, 7);
        }
        due("no more", x.colours(0, 0, 39, 1), 0);
        x.row(0, 0, 40);
        due("the first anew", x.colours(0, 0, 0, 1), 15);
        due("the last anew", x.colours(0, 0, 39, 1), 15);
        x.set(0, 3, 7);
        x.drop(0);
        x.row(0, 0, 4);
        due("behind a drop", x.colours(0, 0, 3, 1), 15);
    }

    // ---- Terms 1: TEXTS

    private static void read(String text, int travellers) {
        LuggageBelt x = new LuggageBelt();
        due("hall() of " + text, Due.tell(x, text), travellers);
        due("fault() of " + text, x.fault(), 0);
    }

    private static void faulty(String text, int place, int fault) {
        LuggageBelt x = new LuggageBelt();
        due("hall() of " + text, Due.tell(x, text), FAULT - place);
        due("fault() of " + text, x.fault(), fault);
        due("no HALL by " + text, x.stand(0), STATE);
    }

    @Sentence(at = "Terms 1", words = "THE TAPE has at most 110 bytes, that come one by one")
    static void terms1_theTapeHas110BytesAtMost() {
        LuggageBelt x = new LuggageBelt();
        for (int i = 1; i <= 110; i++) {
            due("feed, the " + i + "th", x.feed('b'), i);
        }
        due("feed, the 111th", x.feed('b'), FULL);
        due("count(7)", x.count(7), 110);
    }

    @Sentence(at = "Terms 1", words = "letters a to z (each by itself)")
    static void terms1_lettersFromAToZ() {
        faulty("bb4;c0,0;", 1, 1);
        faulty("b4;cs0,0;", 4, 1);
        faulty("a4;c0,0;", 0, 1);
        faulty("b4;a0,0;", 3, 1);
        faulty("b4;z0,0;", 3, 1);
        faulty("b4;`0,0;", 3, 1);
        faulty("b4;{0,0;", 3, 1);
        faulty("b4;C0,0;", 3, 1);
        faulty("B4;c0,0;", 0, 1);
    }

    @Sentence(at = "Terms 1", words = "NUMBERS (figures, 2 at most)")
    static void terms1_numbersHaveTwoFiguresAtMost() {
        read("b4;c0,0;", 1);
        read("b04;c00,00;", 1);
        read("b12;c09,03;", 1);
        faulty("b004;c0,0;", 1, 1);
        faulty("b4;c000,0;", 4, 1);
        faulty("b4;c0,003;", 6, 1);
        faulty("b;c0,0;", 1, 1);
        faulty("b4;c,0;", 4, 1);
        faulty("b4;c0,;", 6, 1);
        faulty("b/;c0,0;", 1, 1);
        faulty("b:;c0,0;", 1, 1);
        faulty("b-4;c0,0;", 1, 1);
    }

    @Sentence(at = "Terms 1", words = "SIGNS , and ; nothing else")
    static void terms1_noOtherSigns() {
        faulty("b4:c0,0;", 2, 1);
        faulty("b4,c0,0;", 2, 1);
        faulty("b4;c0;0;", 5, 1);
        faulty("b4;c0.0;", 5, 1);
        faulty("b4;c0,0,", 7, 1);
        faulty("b4;c0,0:", 7, 1);
        faulty(" b4;c0,0;", 0, 1);
        faulty("b4; c0,0;", 3, 1);
        faulty("b4;c0,0; ", 8, 1);
        faulty("b4;c0,0;\n", 8, 1);
        faulty("b4;c0,0;\0", 8, 1);
        faulty("b4;c0,0;\u0001", 8, 1);
        faulty("b4;c0,0;\u0002", 8, 1);
        faulty("b\u00014;c0,0;", 1, 1);
        faulty("b4;c0,0;\u00ff", 8, 1);
    }

    @Sentence(at = "Terms 1", words = "SIGNS , and ; nothing else")
    static void terms1_everyByteInEveryPlaceOfAText() {
        String text = "b4;c0,0;";
        // A figure in place of a sign makes one number with its neighbours: 40, 000 (a run of three), 00.
        String[] may = {"b", "456789", ";", "cshld", "0123", ",", "0123", ";"};
        for (int place = 0; place < text.length(); place++) {
            for (int letter = 0; letter < 256; letter++) {
                String told = text.substring(0, place) + (char) letter + text.substring(place + 1);
                boolean isFigure = letter >= '0' && letter <= '9';
                if (may[place].indexOf(letter) >= 0) {
                    read(told, 1);
                } else if (isFigure && (place == 1 || place == 4 || place == 6)) {
                    faulty(told, place, 2);
                } else if (isFigure && place == 2) {
                    faulty(told, 1, 2);
                } else if (isFigure && place == 5) {
                    faulty(told, 4, 1);
                } else if (isFigure && place == 7) {
                    faulty(told, letter <= '3' ? 8 : 6, letter <= '3' ? 1 : 2);
                } else {
                    faulty(told, place, 1);
                }
            }
        }
    }

    @Sentence(at = "Terms 1", words = "hall: law traveller { traveller }.")
    static void terms1_aHallHasOneLawAndATravellerOrMore() {
        faulty("b4;", 3, 1);
        read("b4;c0,0;", 1);
        read("b4;c0,0;c0,0;", 2);
        faulty("c0,0;", 0, 1);
        faulty("c0,0;b4;", 0, 1);
        faulty("b4;b4;c0,0;", 3, 1);
        faulty("b4;c0,0;b4;", 8, 1);
        faulty("b4;;c0,0;", 3, 1);
        faulty("b4;c0,0;;", 8, 1);
    }

    @Sentence(at = "Terms 1", words = "law: b PLACES ; (4 to 12: PLACES 0, where the chute ends, 1, ..)")
    static void terms1_placesAre4To12() {
        faulty("b0;c0,0;", 1, 2);
        faulty("b3;c0,0;", 1, 2);
        for (int places = 4; places <= 12; places++) {
            LuggageBelt x = Due.belt("b" + places + ";d0,0;");
            due("stand(0)", x.stand(0), places);
            due("the last place", x.place(places - 1), NONE);
            due("beyond it", x.place(places), BAD);
            x.ticks(1);
            due("the chute ends at 0", x.bag(0, 1), 0);
        }
        faulty("b13;c0,0;", 1, 2);
        faulty("b99;c0,0;", 1, 2);
    }

    @Sentence(at = "Terms 1", words = "(SORT: c a calm one, s a shy one, h a hasty one, l a slow one, d a dozy one")
    static void terms1_fiveSortsAndNoOther() {
        for (char letter = 'a'; letter <= 'z'; letter++) {
            int sort = "cshld".indexOf(letter);
            if (sort < 0) {
                faulty("b4;" + letter + "0,0;", 3, 1);
            } else {
                due("kind of " + letter, Due.belt("b4;" + letter + "0,0;").kind(0), sort + 1);
            }
        }
    }

    @Sentence(at = "Terms 1", words = "a PLACE; 0 to 3")
    static void terms1_aStandIsAPlaceOfTheBelt() {
        for (int places = 4; places <= 12; places++) {
            due("the first", Due.belt("b" + places + ";c0,0;").traveller(0, 0), 0);
            due("the last", Due.belt("b" + places + ";c" + (places - 1) + ",0;").traveller(0, 0), places - 1);
            faulty("b" + places + ";c" + places + ",0;", places < 10 ? 4 : 5, 2);
        }
        faulty("b4;c99,0;", 4, 2);
    }

    @Sentence(at = "Terms 1", words = "a PLACE; 0 to 3")
    static void terms1_coloursAre0To3() {
        for (int colour = 0; colour <= 3; colour++) {
            due("colour", Due.belt("b4;c0," + colour + ";").bag(0, 0), colour);
        }
        faulty("b4;c0,4;", 6, 2);
        faulty("b4;c0,04;", 6, 2);
        faulty("b4;c0,99;", 6, 2);
    }

    @Sentence(at = "Terms 1", words = "TRAVELLERS 0 .. 5, 6 at most")
    static void terms1_sixTravellersAtMost() {
        StringBuilder text = new StringBuilder("b4;");
        for (int count = 1; count <= 6; count++) {
            text.append("c0,0;");
            LuggageBelt x = Due.belt(text.toString());
            due("count(1)", x.count(1), count);
            due("kind of the last", x.kind(count - 1), 1);
            due("kind beyond it", x.kind(count), BAD);
        }
        faulty(text + "c0,0;", text.length(), 3);
    }

    @Sentence(at = "Terms 1", words = "BAG k is that of TRAVELLER k, of that COLOUR")
    static void terms1_bagsAreAsManyAsTravellers() {
        LuggageBelt x = Due.belt("b4;c0,3;c1,2;c2,1;c3,0;c0,1;c1,2;");
        int[] colours = {3, 2, 1, 0, 1, 2};
        for (int k = 0; k < 6; k++) {
            due("bag(" + k + ", 0)", x.bag(k, 0), colours[k]);
        }
        due("bag(6, 0)", x.bag(6, 0), BAD);
        due("each goes with its own", x.with(5, 60, 0), 5);
        due("each goes with its own", x.with(0, 60, 0), 0);
    }

    @Sentence(at = "Terms 1", words = "A HALL that is read stands in place of the one before (none at first)")
    static void terms1_noHallAtFirstThenTheLatest() {
        LuggageBelt x = new LuggageBelt();
        due("stand(0)", x.stand(0), STATE);
        due("hall()", Due.tell(x, "b12;c11,3;s10,2;h9,1;l8,0;d7,3;c6,2;"), 6);
        due("hall()", Due.tell(x, "b4;d1,1;"), 1);
        due("stand(0)", x.stand(0), 4);
        due("kind(0)", x.kind(0), 5);
        due("kind(1)", x.kind(1), BAD);
        due("place(4)", x.place(4), BAD);
        due("bag(0, 0)", x.bag(0, 0), 1);
        due("bag(1, 0)", x.bag(1, 0), BAD);
    }

    @Sentence(at = "Terms 1", words = "TICK 0, all TRAVELLERS WAIT, all BAGS are in THE CART, nobody SAW any")
    static void terms1_aHallBeginsAnew() {
        LuggageBelt x = Due.belt("b4;c0,0;d1,0;s3,0;", 9);
        // What was foretold of the hall before must leave nothing, either.
        x.all(59, 0);
        x.sleep(0, 59, 10, 0);
        due("hall()", Due.tell(x, "b4;d1,0;c0,0;s3,0;"), 3);
        due("TICK", x.count(3), 0);
        due("who WAITS", x.stand(4), 7);
        due("in THE CART", x.stand(1), 7);
        due("on THE BELT", x.stand(2), 0);
        due("TAKEN", x.stand(3), 0);
        due("what all SAW", x.count(5), 0);
        for (int place = 0; place < 4; place++) {
            due("place(" + place + ")", x.place(place), NONE);
        }
        due("bag 0 falls at 0, nobody sees it", x.ticks(1), 0);
        due("place(0)", x.place(0), 0);
        due("nobody SAW any", x.count(5), 0);
        due("bag 1 falls and is taken, bag 0 is seen once", x.ticks(1), 2);
        due("once", x.traveller(0, 3), 1);
        LuggageBelt y = Due.belt("b12;d11,0;d11,0;d11,0;d11,0;d11,0;d11,0;");
        due("five are in the cart yet", y.ahead(5, 1), 20);
        due("hall()", Due.tell(y, "b4;c1,0;"), 1);
        due("in the cart there is one now", y.order(40, -1), 1);
        due("which falls at 0", y.ahead(0, 1), 0);
        due("ticks(1)", y.ticks(1), 0);
        due("in the cart there is none now", y.order(40, -1), 1);
    }

    @Sentence(at = "Terms 1", words = "no ACT can be undone.")
    static void terms1_noActOfTheHallBeforeCanBeUndone() {
        LuggageBelt x = Due.belt("b4;c0,0;", 24);
        due("count(6)", x.count(6), 24);
        Due.tell(x, "b4;c0,0;");
        due("count(6)", x.count(6), 0);
        due("undo()", x.undo(), STATE);
        x.ticks(1);
        due("undo()", x.undo(), 0);
        due("undo()", x.undo(), STATE);
    }

    // ---- Terms 1: FAULTS

    @Sentence(at = "Terms 1", words = "FAULTS, the first TOKEN that has one (its first byte)")
    static void terms1_theFirstFaultCounts() {
        faulty("b3;c9,9;x", 1, 2);
        faulty("b4;c9,9;", 4, 2);
        faulty("b4;x99,9;", 3, 1);
        faulty("b13x", 1, 2);
        faulty("b12;c12,0;", 5, 2);
        faulty("b12;c11,44;", 8, 2);
        faulty(SIX + "c9,9;", 33, 3);
        faulty("b4;c0,0;c1,0;s2,0;h3,0;l0,0;d4,0;c", 29, 2);
    }

    @Sentence(at = "Terms 1", words = "of one TOKEN the least")
    static void terms1_ofOneTokenTheLeastFault() {
        // Too many figures, and too great a number, too.
        faulty("b999;c0,0;", 1, 1);
        faulty("b4;c100,0;", 4, 1);
        // A number that cannot stand there, and is greater than all that may.
        faulty("b4;99,0;", 3, 1);
        faulty("99", 0, 1);
        // What cannot stand there, where a traveller more would have no room either.
        faulty(SIX + "x", 33, 1);
        faulty(SIX + "b", 33, 1);
        faulty(SIX + "7", 33, 1);
        faulty(SIX + ";", 33, 1);
    }

    @Sentence(at = "Terms 1", words = "1 it cannot stand there, or is none (a run of three figures, at its first;")
    static void terms1_aRunOfThreeFiguresIsAFaultAtItsFirst() {
        faulty("b123", 1, 1);
        faulty("b012;c0,0;", 1, 1);
        faulty("b0012;c0,0;", 1, 1);
        faulty("b000012;c0,0;", 1, 1);
        faulty("b4;c0,123", 6, 1);
        faulty("b4;c1234567890,0;", 4, 1);
        faulty("123", 0, 1);
        faulty("b4123", 1, 1);
        // Two figures are a number, whatever is behind them.
        faulty("b12", 3, 1);
        faulty("b12x", 3, 1);
    }

    @Sentence(at = "Terms 1", words = "the end: how many bytes there are)")
    static void terms1_theEndIsAFaultAtHowManyBytesThereAre() {
        String text = "b12;c11,03;";
        int[] tokenEnds = {0, 1, 3, 4, 5, 7, 8, 10};
        for (int end : tokenEnds) {
            faulty(text.substring(0, end), end, 1);
        }
        read(text, 1);
        faulty(text + "c", 12, 1);
        faulty(text + "c11,03", 17, 1);
        faulty(SIX.substring(0, 32), 32, 1);
        read(SIX, 6);
    }

    @Sentence(at = "Terms 1", words = "2 a NUMBER that is not as told")
    static void terms1_aNumberNotAsToldIsFault2() {
        faulty("b3;", 1, 2);
        faulty("b03", 1, 2);
        faulty("b00", 1, 2);
        faulty("b13", 1, 2);
        faulty("b4;c4", 4, 2);
        faulty("b4;c04,0;", 4, 2);
        faulty("b11;c11", 5, 2);
        faulty("b4;c3,4", 6, 2);
        faulty("b4;c3,10", 6, 2);
        faulty("b4;c3,3;c4,3;", 9, 2);
    }

    @Sentence(at = "Terms 1", words = "3 a traveller more than there is room for (its letter).")
    static void terms1_theSeventhTravellerIsFault3AtItsLetter() {
        read(SIX, 6);
        for (char sort : "cshld".toCharArray()) {
            faulty(SIX + sort, 33, 3);
            faulty(SIX + sort + "0,0;", 33, 3);
        }
        faulty("b12;" + "c11,03;".repeat(6) + "d11,03;", 46, 3);
        // The tape is full, and yet it is the seventh letter that is told.
        faulty(("b12;" + "c11,03;".repeat(16)).substring(0, 110), 46, 3);
    }

    // ---- Terms 4

    @Sentence(at = "Terms 4", words = "each of which leaves its number in THE TRACE as it begins (the first 16)")
    static void terms4_theTraceHasAllThatBeganAndNoMore() {
        // The most that one ask can leave are six.
        LuggageBelt x = Due.belt("b4;s0,0;");
        x.ask(0, 0);
        int[] trace = {12, 11, 10, 24, 21, 20};
        for (int i = 0; i < 6; i++) {
            due("trace(" + i + ")", x.trace(i), trace[i]);
        }
        due("trace(6)", x.trace(6), NONE);
        due("trace(15)", x.trace(15), NONE);
        due("trace(16)", x.trace(16), NONE);
        due("trace(-1)", x.trace(-1), NONE);
        for (int i = 0; i < 5; i++) {
            x.ask(0, 0);
        }
        due("trace(5), however often it was asked", x.trace(5), 20);
        due("trace(6), however often it was asked", x.trace(6), NONE);
    }

    @Sentence(at = "Terms 4", words = "else that of the nearest KIND that it is, too")
    static void terms4_theNearestKindThatHasABodyBegins() {
        // Hasty ones have no SIZE of their own, dozy ones no MARK: the calm ones', the slow ones' begins.
        LuggageBelt x = Due.belt("b4;h2,0;d3,0;");
        due("SIZE of a hasty one", x.ask(0, 0), 2 + 0 + 0 - 1000);
        due("trace(0)", x.trace(0), 11);
        due("trace(2), MARK is asked of it anew", x.trace(2), 22);
        due("MARK of a dozy one", x.ask(1, 1), 1 - 2 * (3 - 100));
        due("trace(0)", x.trace(0), 23);
        due("trace(2), SIZE is asked of it anew", x.trace(2), 14);
    }
}
