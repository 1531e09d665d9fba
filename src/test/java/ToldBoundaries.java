/** Boundary cases of promises 1 and 6 to 9: a new object, and what is told. */
final class ToldBoundaries implements Answers {
    private ToldBoundaries() {
    }

    private static void due(String call, long got, long want) {
        Due.due(call, got, want);
    }

    // ---- 1 a new object

    @Sentence(at = "Promise 1", words = "No HALL.")
    static void promise01_noHallAtFirst() {
        LuggageBelt x = new LuggageBelt();
        due("stand(0)", x.stand(0), STATE);
        due("kind(0)", x.kind(0), BAD);
        due("place(0)", x.place(0), BAD);
        due("restore(0)", x.restore(0), STATE);
        for (int what = 0; what < 8; what++) {
            due("count(" + what + ")", x.count(what), 0);
        }
        due("fault()", x.fault(), 0);
        due("status()", x.status(), 0);
        due("trace(0)", x.trace(0), NONE);
    }

    @Sentence(at = "Promise 1", words = "No HALL.")
    static void promise01_oneObjectHasNothingOfAnother() {
        LuggageBelt x = Due.belt("b4;c0,0;", 3);
        x.row(0, 0, 1);
        x.set(1, 0, 0);
        x.image(0);
        x.ask(0, 0);
        LuggageBelt y = new LuggageBelt();
        due("stand(0)", y.stand(0), STATE);
        due("restore(0)", y.restore(0), STATE);
        due("drop(0)", y.drop(0), NULL);
        due("trace(0)", y.trace(0), NONE);
        due("count(7)", y.count(7), 0);
    }

    // ---- 6 feed

    @Sentence(at = "Promise 6", words = "A byte (0 to 255) comes behind the tape: how many it has.")
    static void promise06_bytesAre0To255() {
        LuggageBelt x = new LuggageBelt();
        due("feed(0)", x.feed(0), 1);
        due("feed(255)", x.feed(255), 2);
        due("feed(128)", x.feed(128), 3);
        due("count(7)", x.count(7), 3);
    }

    @Sentence(at = "Promise 6", words = "BAD; FULL.")
    static void promise06_noByteIsBad() {
        LuggageBelt x = new LuggageBelt();
        // Cut to a byte these would be letters.
        for (int letter : new int[] {-1, 256, MIN, MAX, 256 + 'b', 'b' - 256}) {
            due("feed(" + letter + ")", x.feed(letter), BAD);
        }
        due("count(7)", x.count(7), 0);
    }

    @Sentence(at = "Promise 6", words = "BAD; FULL.")
    static void promise06_aTapeOf110IsFull() {
        LuggageBelt x = new LuggageBelt();
        String hall = "b4;c0,0;";
        for (int i = 0; i < 110; i++) {
            due("feed", x.feed(i < hall.length() ? hall.charAt(i) : 0), i + 1);
        }
        due("feed(0)", x.feed(0), FULL);
        due("feed(256)", x.feed(256), BAD);
        due("count(7)", x.count(7), 110);
        due("hall()", x.hall(), FAULT - 8);
        due("feed(98)", x.feed('b'), 1);
    }

    // ---- 7 hall

    @Sentence(at = "Promise 7", words = "The tape, empty then, is read: how many TRAVELLERS there are.")
    static void promise07_oneToSixTravellers() {
        for (int count = 1; count <= 6; count++) {
            LuggageBelt x = new LuggageBelt();
            due("hall()", Due.tell(x, "b12;" + "d11,03;".repeat(count)), count);
            due("count(1)", x.count(1), count);
        }
    }

    @Sentence(at = "Promise 7", words = "The tape, empty then, is read: how many TRAVELLERS there are.")
    static void promise07_theTapeIsEmptyThen() {
        LuggageBelt x = new LuggageBelt();
        due("hall()", Due.tell(x, "b4;c0,0;"), 1);
        due("count(7)", x.count(7), 0);
        due("an empty tape has a fault at 0", x.hall(), FAULT);
        due("fault()", x.fault(), 1);
        due("hall()", Due.tell(x, "b4;x"), FAULT - 3);
        due("empty behind a fault, too", x.count(7), 0);
        due("feed(98)", x.feed('b'), 1);
    }

    @Sentence(at = "Promise 7", words = "-1000100 less the place of a FAULT: all stays.")
    static void promise07_anEmptyTapeHasAFaultAt0() {
        LuggageBelt x = new LuggageBelt();
        due("hall()", x.hall(), -1000100);
        due("fault()", x.fault(), 1);
        due("no HALL", x.stand(0), STATE);
    }

    @Sentence(at = "Promise 7", words = "-1000100 less the place of a FAULT: all stays.")
    static void promise07_aFaultLeavesTheHallItsActsAndImages() {
        LuggageBelt x = Due.belt("b6;c3,1;h1,1;c5,0;", 3);
        x.move(0, 4);
        x.image(0);
        x.ask(0, 0);
        String before = Picture.of(x).replace("fault 0", "fault 2");
        due("hall()", Due.tell(x, "b12;d11,3;l10,2;s9,1;h8,0;c12,0;"), FAULT - 27);
        Due.holds("all is as it was but the fault", before.equals(Picture.of(x)));
        due("undo()", x.undo(), 3);
        due("the move is undone", x.traveller(0, 0), 3);
        due("undo()", x.undo(), 2);
        due("the tick is undone", x.count(3), 2);
        due("restore(0)", x.restore(0), 1);
        due("the image stays", x.traveller(0, 0), 4);
    }

    @Sentence(at = "Promise 7", words = "-1000100 less the place of a FAULT: all stays.")
    static void promise07_whatIsForetoldStaysBehindAFault() {
        // The reader must leave nothing of a hall that was read but in part.
        LuggageBelt x = Due.belt("b6;c3,1;h1,1;", 1);
        due("when(1)", x.when(1), 1);
        due("order(40, -1)", x.order(40, -1), 0);
        due("hall()", Due.tell(x, "b4;d0,0;x"), FAULT - 8);
        due("when(1)", x.when(1), 1);
        due("order(40, -1)", x.order(40, -1), 0);
        due("ticks(1)", x.ticks(1), 2);
    }

    // ---- 8 fault

    @Sentence(at = "Promise 8", words = "The number of the latest FAULT; 0 before one.")
    static void promise08_0BeforeOne() {
        LuggageBelt x = new LuggageBelt();
        due("fault()", x.fault(), 0);
        Due.tell(x, "b4;c0,0;");
        due("fault()", x.fault(), 0);
    }

    @Sentence(at = "Promise 8", words = "The number of the latest FAULT; 0 before one.")
    static void promise08_theLatestStays() {
        LuggageBelt x = new LuggageBelt();
        Due.tell(x, "b3;");
        due("fault()", x.fault(), 2);
        Due.tell(x, "b4;c0,0;");
        due("a HALL that is read leaves it", x.fault(), 2);
        Due.tell(x, "b4;c0,0;c1,0;s2,0;h3,0;l0,0;d1,0;c");
        due("fault()", x.fault(), 3);
        x.feed(256);
        x.row(0, 0, -1);
        due("what is refused or found leaves it", x.fault(), 3);
        Due.tell(x, "");
        due("fault()", x.fault(), 1);
    }

    // ---- 9 undo

    @Sentence(at = "Promise 9", words = "The latest ACT is undone: how many can be undone yet.")
    static void promise09_fromTheLatestToTheFirst() {
        LuggageBelt x = Due.belt("b4;c0,0;d3,1;");
        String atFirst = Picture.of(x);
        x.ticks(2);
        x.back(0);
        x.paint(1, 3);
        x.move(1, 2);
        x.turn();
        for (int left = 5; left >= 0; left--) {
            due("undo()", x.undo(), left);
        }
        Due.holds("all is as it was at first", atFirst.equals(Picture.of(x)));
    }

    @Sentence(at = "Promise 9", words = "STATE: none.")
    static void promise09_noneIsState() {
        LuggageBelt x = new LuggageBelt();
        due("no HALL", x.undo(), STATE);
        Due.tell(x, "b4;c0,0;");
        due("no ACT", x.undo(), STATE);
        x.ticks(1);
        due("undo()", x.undo(), 0);
        due("all undone", x.undo(), STATE);
        due("TICK", x.count(3), 0);
        x.ticks(1);
        x.image(0);
        x.restore(0);
        due("behind restore", x.undo(), STATE);
        due("TICK", x.count(3), 1);
        x.ticks(1);
        Due.tell(x, "b4;c0,0;");
        due("behind another HALL", x.undo(), STATE);
    }

    @Sentence(at = "Promise 9", words = "STATE: none.")
    static void promise09_of25ActsTheFirstCannotBeUndone() {
        LuggageBelt x = Due.belt("b4;c0,0;", 25);
        for (int left = 23; left >= 0; left--) {
            due("undo()", x.undo(), left);
        }
        due("undo()", x.undo(), STATE);
        due("TICK", x.count(3), 1);
        due("it is gone", x.stand(4), 0);
    }
}
