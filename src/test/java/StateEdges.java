/** The boundary cases of the promises 18 to 27: what an end, and the centre, has at the moment. */
final class StateEdges extends Checks {

    // Promise 18: cursor

    private static void promise18_endsAre0And1() {
        Couplet x = typed(0, "ab");
        dueTwoEnds(x, end -> x.cursor(end));
        due(2, x.cursor(0));
        due(0, x.cursor(1));
    }

    private static void promise18_isAt0InANewObject() {
        Couplet x = new Couplet();
        due(0, x.cursor(0));
        due(0, x.cursor(1));
    }

    private static void promise18_ownInsertionPutsItBehindTheCharacter() {
        Couplet x = shared("abcd");
        x.insert(0, 0, 'x');
        due(1, x.cursor(0));
        x.insert(0, 5, 'y');
        due(6, x.cursor(0));
        x.insert(0, 2, 'z');
        due(3, x.cursor(0));
    }

    private static void promise18_ownDeletionPutsItWhereTheCharacterWas() {
        Couplet x = shared("abcd");
        x.delete(0, 3);
        due(3, x.cursor(0));
        x.delete(0, 0);
        due(0, x.cursor(0));
        x.delete(0, 1);
        due(1, x.cursor(0));
        x.delete(0, 0);
        due(0, x.cursor(0));
    }

    /** Where the cursor of either end is in "abcd" after an operation of the other one. */
    private static void dueCursors(int want, int cursor, char kind, int position) {
        for (int end = 0; end < 2; end++) {
            Couplet x = shared("abcd");
            x.moveCursor(end, cursor);
            act(x, 1 - end, kind, position);
            x.deliverUp(1 - end);
            x.deliverDown(end);
            due(want, x.cursor(end));
        }
    }

    private static void promise18_insertionOfTheOtherEndAtALowerPositionMovesIt() {
        dueCursors(3, 2, 'i', 1);
        dueCursors(3, 2, 'i', 0);
        dueCursors(5, 4, 'i', 3);
    }

    private static void promise18_insertionOfTheOtherEndAtItsPositionLeavesIt() {
        dueCursors(2, 2, 'i', 2);
        dueCursors(0, 0, 'i', 0);
        dueCursors(4, 4, 'i', 4);
    }

    private static void promise18_insertionOfTheOtherEndAtAHigherPositionLeavesIt() {
        dueCursors(2, 2, 'i', 3);
        dueCursors(0, 0, 'i', 4);
    }

    private static void promise18_deletionOfTheOtherEndAtALowerPositionMovesIt() {
        dueCursors(1, 2, 'd', 1);
        dueCursors(1, 2, 'd', 0);
        dueCursors(3, 4, 'd', 3);
        dueCursors(0, 1, 'd', 0);
    }

    private static void promise18_deletionOfTheOtherEndAtItsPositionLeavesIt() {
        dueCursors(2, 2, 'd', 2);
        dueCursors(0, 0, 'd', 0);
    }

    private static void promise18_deletionOfTheOtherEndAtAHigherPositionLeavesIt() {
        dueCursors(2, 2, 'd', 3);
        dueCursors(0, 0, 'd', 3);
    }

    private static void promise18_movesByWhatTheOperationBecame() {
        // The end 0 inserts below the cursor of the end 1, but behind what this one has inserted.
        Couplet x = shared("abcd");
        x.insert(1, 3, '1');
        x.moveCursor(1, 3);
        x.insert(0, 3, '0');
        x.deliverUp(0);
        x.deliverDown(1);
        due("abc01d", text(x, 1));
        due(3, x.cursor(1));
        x.insert(0, 1, '0');
        x.deliverDown(0);
        x.deliverUp(0);
        x.deliverDown(1);
        due("a0bc01d", text(x, 1));
        due(4, x.cursor(1));
    }

    private static void promise18_doesNotMoveByWhatTheOperationWas() {
        for (int end = 0; end < 2; end++) {
            // The other end inserts at 3, which is at the cursor for this one, as it has inserted an x.
            Couplet x = shared("abcd");
            x.insert(end, 0, 'x');
            x.moveCursor(end, 4);
            x.insert(1 - end, 3, '-');
            x.deliverUp(1 - end);
            x.deliverDown(end);
            due("xabc-d", text(x, end));
            due(4, x.cursor(end));
            // It inserts at 2, which is ahead of the cursor for this one, as it has deleted the a.
            Couplet y = shared("abcd");
            y.delete(end, 0);
            y.moveCursor(end, 2);
            y.insert(1 - end, 2, '-');
            y.deliverUp(1 - end);
            y.deliverDown(end);
            due("b-cd", text(y, end));
            due(3, y.cursor(end));
        }
    }

    private static void promise18_staysByAnAcknowledgement() {
        Couplet x = typed(0, "ab");
        x.moveCursor(0, 1);
        x.deliverUp(0);
        x.deliverDown(0);
        due(1, x.cursor(0));
    }

    // Promise 19: mark

    private static void promise19_endsAre0And1() {
        Couplet x = shared("ab");
        dueTwoEnds(x, end -> x.mark(end));
        due(0, x.mark(0));
        due(2, x.mark(1));
    }

    private static void promise19_isAt0InANewObject() {
        Couplet x = new Couplet();
        due(0, x.mark(0));
        due(0, x.mark(1));
    }

    private static void promise19_isBehindTheCharacterThatTheOtherEndInserts() {
        Couplet x = shared("abcd");
        x.insert(0, 0, 'x');
        x.deliverAll();
        due(1, x.mark(1));
        x.insert(0, 5, 'y');
        x.deliverAll();
        due(6, x.mark(1));
    }

    private static void promise19_isWhereTheOtherEndDeletes() {
        Couplet x = shared("abcd");
        x.delete(0, 3);
        x.deliverAll();
        due(3, x.mark(1));
        x.delete(0, 0);
        x.deliverAll();
        due(0, x.mark(1));
    }

    private static void promise19_cursorOfTheOtherEndDoesNotMoveIt() {
        Couplet x = shared("abcd");
        x.moveCursor(0, 2);
        x.moveCursor(1, 1);
        x.deliverAll();
        due(4, x.mark(1));
    }

    private static void promise19_isAtWhatTheOperationBecame() {
        for (int end = 0; end < 2; end++) {
            Couplet x = shared("abcd");
            x.insert(end, 0, 'x');
            x.insert(1 - end, 3, '-');
            x.deliverUp(1 - end);
            x.deliverDown(end);
            due(5, x.mark(end));
            Couplet y = shared("abcd");
            y.insert(end, 0, 'x');
            y.delete(1 - end, 3);
            y.deliverUp(1 - end);
            y.deliverDown(end);
            due(4, y.mark(end));
        }
    }

    private static void promise19_lastOperationOfAMessageCounts() {
        Couplet x = shared("abcd");
        x.insert(0, 4, 'z');
        x.insert(0, 1, 'x');
        x.insert(0, 2, 'y');
        x.deliverAll();
        due("axybcdz", text(x, 1));
        due(3, x.mark(1));
    }

    private static void promise19_operationThatIsNothingDoesNotCount() {
        // Of the run that deletes c and d, only the first one is something for the end 1.
        Couplet x = shared("abcd");
        x.insert(0, 4, 'z');
        x.delete(0, 2);
        x.delete(0, 2);
        x.delete(1, 3);
        for (int i = 0; i < 2; i++) {
            x.deliverUp(0);
            x.deliverDown(0);
            x.deliverDown(1);
        }
        due("abz", text(x, 1));
        due(2, x.mark(1));
        due(2, x.historySize(x.centreRevision() - 1));
    }

    private static void promise19_messageOfNothingAloneLeavesIt() {
        Couplet x = shared("abcd");
        x.delete(0, 1);
        x.delete(1, 1);
        due(3, x.mark(1));
        x.deliverUp(0);
        x.deliverDown(1);
        due(3, x.mark(1));
    }

    /** Where the mark of either end, which is at 2 in "axbd", is after an operation of its own. */
    private static void dueMarks(int want, char kind, int position) {
        for (int end = 0; end < 2; end++) {
            Couplet x = shared("abd");
            x.insert(1 - end, 1, 'x');
            x.deliverAll();
            due(2, x.mark(end));
            act(x, end, kind, position);
            due(want, x.mark(end));
        }
    }

    private static void promise19_ownInsertionAtALowerPositionMovesIt() {
        dueMarks(3, 'i', 1);
        dueMarks(3, 'i', 0);
    }

    private static void promise19_ownInsertionAtItsPositionLeavesIt() {
        dueMarks(2, 'i', 2);
    }

    private static void promise19_ownInsertionAtAHigherPositionLeavesIt() {
        dueMarks(2, 'i', 3);
        dueMarks(2, 'i', 4);
    }

    private static void promise19_ownDeletionAtALowerPositionMovesIt() {
        dueMarks(1, 'd', 1);
        dueMarks(1, 'd', 0);
    }

    private static void promise19_ownDeletionAtItsPositionLeavesIt() {
        dueMarks(2, 'd', 2);
    }

    private static void promise19_ownDeletionAtAHigherPositionLeavesIt() {
        dueMarks(2, 'd', 3);
    }

    private static void promise19_ownOperationAt0LeavesAMarkAt0() {
        Couplet x = new Couplet();
        x.insert(1, 0, 'a');
        due(0, x.mark(1));
        x.delete(1, 0);
        due(0, x.mark(1));
    }

    private static void promise19_staysByAnAcknowledgement() {
        for (int end = 0; end < 2; end++) {
            Couplet x = shared("ab");
            x.insert(1 - end, 2, 'c');
            x.deliverAll();
            x.insert(end, 3, 'd');
            x.delete(end, 3);
            for (int i = 0; i < 2; i++) {
                x.deliverUp(end);
                due('a', x.deliverDown(end));
                due(3, x.mark(end));
            }
        }
    }

    private static void promise19_operationThatUndoesMovesItToo() {
        Couplet x = shared("abcd");
        x.delete(1, 0);
        due(3, x.mark(1));
        x.undo(1);
        due(4, x.mark(1));
        x.insert(1, 1, 'x');
        x.undo(1);
        due(4, x.mark(1));
    }

    // Promise 20: revision

    private static void promise20_endsAre0And1() {
        Couplet x = typed(0, "ab");
        x.deliverUp(0);
        x.deliverDown(0);
        dueTwoEnds(x, end -> x.revision(end));
        due(1, x.revision(0));
        due(0, x.revision(1));
    }

    private static void promise20_is0InANewObject() {
        Couplet x = new Couplet();
        due(0, x.revision(0));
        due(0, x.revision(1));
    }

    private static void promise20_acknowledgementsAreCounted() {
        Couplet x = typed(0, "a");
        x.deliverUp(0);
        due(0, x.revision(0));
        x.deliverDown(0);
        due(1, x.revision(0));
    }

    private static void promise20_messageOfSeveralOperationsIsCountedOnce() {
        Couplet x = typed(0, "abcd");
        x.deliverAll();
        due(2, x.revision(0));
        due(2, x.revision(1));
    }

    // Promise 21: sent

    private static void promise21_endsAre0And1() {
        Couplet x = typed(1, "ab");
        dueTwoEnds(x, end -> x.sent(end));
        due(0, x.sent(0));
        due(1, x.sent(1));
    }

    private static void promise21_is0WithoutOperations() {
        Couplet x = shared("ab");
        due(0, x.sent(0));
        due(0, x.sent(1));
        due(0, new Couplet().sent(0));
    }

    private static void promise21_firstOperationIsSentByItself() {
        Couplet x = typed(0, "abc");
        due(1, x.sent(0));
    }

    private static void promise21_staysUntilTheAcknowledgement() {
        Couplet x = typed(0, "a");
        x.deliverUp(0);
        x.deliverDown(1);
        due(1, x.sent(0));
        x.deliverDown(0);
        due(0, x.sent(0));
    }

    private static void promise21_allOperationsOfARunAreSent() {
        Couplet x = typed(0, "abcd");
        x.deliverUp(0);
        x.deliverDown(0);
        due(3, x.sent(0));
    }

    private static void promise21_operationsThatAreNothingAreIncluded() {
        for (int end = 0; end < 2; end++) {
            Couplet x = shared("abc");
            x.insert(end, 3, 'z');
            x.delete(end, 0);
            x.delete(end, 0);
            x.deliverUp(end);
            x.deliverDown(end);
            due(2, x.sent(end));
            x.delete(1 - end, 0);
            x.deliverUp(1 - end);
            x.deliverDown(end);
            due("cz", text(x, end));
            due(2, x.sent(end));
            due("cz", byHistory(x, end));
        }
    }

    // Promise 22: waiting

    private static void promise22_endsAre0And1() {
        Couplet x = typed(1, "abc");
        dueTwoEnds(x, end -> x.waiting(end));
        due(0, x.waiting(0));
        due(2, x.waiting(1));
    }

    private static void promise22_is0WithoutOrWithOneOperation() {
        due(0, new Couplet().waiting(0));
        due(0, typed(0, "a").waiting(0));
        due(1, typed(0, "ab").waiting(0));
        due(0, shared("abc").waiting(0));
    }

    private static void promise22_199OperationsWait() {
        Couplet x = new Couplet();
        for (int i = 0; i < 100; i++) {
            x.type(0, 'a');
            x.erase(0);
        }
        due(199, x.waiting(0));
        due(1, x.sent(0));
        x.deliverAll();
        due(0, x.waiting(0));
    }

    private static void promise22_operationThatIsNothingIsGone() {
        for (int end = 0; end < 2; end++) {
            Couplet x = shared("abc");
            x.insert(end, 3, 'z');
            x.delete(end, 0);
            x.delete(end, 0);
            due(2, x.waiting(end));
            x.delete(1 - end, 0);
            x.deliverUp(1 - end);
            x.deliverDown(end);
            due(1, x.waiting(end));
            due("cz", text(x, end));
            due("cz", byHistory(x, end));
        }
    }

    private static void promise22_lookingTheSameIsNotEnoughToGo() {
        Couplet x = shared("aa");
        x.insert(0, 2, 'z');
        x.delete(0, 0);
        x.delete(1, 1);
        x.deliverUp(1);
        x.deliverDown(0);
        due(1, x.waiting(0));
        due("z", text(x, 0));
    }

    // Promise 23: runs

    private static void promise23_endsAre0And1() {
        Couplet x = typed(1, "abc");
        x.insert(1, 0, 'd');
        dueTwoEnds(x, end -> x.runs(end));
        due(0, x.runs(0));
        due(2, x.runs(1));
    }

    private static void promise23_is0WithoutWaitingOperations() {
        due(0, new Couplet().runs(0));
        due(0, typed(0, "a").runs(0));
        due(0, shared("ab").runs(0));
    }

    /** Behind a sent insertion, operations wait such as i2 and d3; how they part and what is sent first. */
    private static String parted(String operations) {
        Couplet x = shared("abcdef");
        x.insert(0, 6, 'z');
        for (String operation : operations.split(" ")) {
            act(x, 0, operation.charAt(0), operation.charAt(1) - '0');
        }
        int runs = x.runs(0);
        x.deliverUp(0);
        x.deliverDown(0);
        due(Math.max(0, runs - 1), x.runs(0));
        return runs + " " + x.sent(0);
    }

    private static void promise23_oneOperationIsOneRun() {
        due("1 1", parted("i2"));
        due("1 1", parted("d2"));
    }

    private static void promise23_firstOneNeedNotGoOnFromWhatIsSent() {
        due("1 1", parted("i7"));
        due("1 2", parted("i0 i1"));
    }

    private static void promise23_insertionAtThePositionPlus1GoesOn() {
        due("1 2", parted("i2 i3"));
        due("1 4", parted("i0 i1 i2 i3"));
    }

    private static void promise23_insertionAtThePositionDoesNotGoOn() {
        due("2 1", parted("i2 i2"));
    }

    private static void promise23_insertionAtThePositionPlus2DoesNotGoOn() {
        due("2 1", parted("i2 i4"));
    }

    private static void promise23_insertionAtThePositionMinus1DoesNotGoOn() {
        due("2 1", parted("i2 i1"));
    }

    private static void promise23_deletionAtThePositionGoesOn() {
        due("1 2", parted("d3 d3"));
        due("1 3", parted("d0 d0 d0"));
    }

    private static void promise23_deletionAt1LessGoesOn() {
        due("1 2", parted("d3 d2"));
        due("1 2", parted("d1 d0"));
    }

    private static void promise23_deletionAt2LessDoesNotGoOn() {
        due("2 1", parted("d3 d1"));
    }

    private static void promise23_deletionAt1MoreDoesNotGoOn() {
        due("2 1", parted("d3 d4"));
    }

    private static void promise23_deletionDoesNotGoOnFromAnInsertion() {
        due("2 1", parted("i2 d2"));
        due("2 1", parted("i2 d1"));
        due("2 1", parted("i2 d3"));
    }

    private static void promise23_insertionDoesNotGoOnFromADeletion() {
        due("2 1", parted("d2 i2"));
        due("2 1", parted("d2 i3"));
        due("2 1", parted("d2 i1"));
    }

    private static void promise23_eachOneGoesOnFromTheOneBeforeIt() {
        due("2 2", parted("i2 i3 i3"));
        due("2 2", parted("d3 d2 d3"));
        due("1 4", parted("d4 d3 d3 d2"));
        due("2 2", parted("i2 i3 i2 i3"));
        due("3 2", parted("i2 i3 d3 d2 i2"));
    }

    private static void promise23_insertionOfTheOtherEndPartsARun() {
        Couplet x = shared("abcdef");
        x.insert(0, 6, 'z');
        x.delete(0, 2);
        x.delete(0, 2);
        due(1, x.runs(0));
        x.insert(1, 3, '1');
        x.deliverUp(1);
        x.deliverDown(0);
        due("ab1efz", text(x, 0));
        due(2, x.runs(0));
        x.deliverUp(0);
        x.deliverDown(0);
        due(1, x.sent(0));
        due(1, x.waiting(0));
    }

    private static void promise23_deletionOfTheOtherEndJoinsRuns() {
        Couplet x = shared("abcdef");
        x.insert(0, 6, 'z');
        x.delete(0, 2);
        x.delete(0, 3);
        due(2, x.runs(0));
        x.delete(1, 3);
        x.deliverUp(1);
        x.deliverDown(0);
        due("abfz", text(x, 0));
        due(1, x.runs(0));
    }

    private static void promise23_whatWentAwayPartsNothing() {
        Couplet x = shared("abcdef");
        x.insert(0, 6, 'z');
        x.insert(0, 6, 'x');
        x.delete(0, 2);
        x.insert(0, 6, 'y');
        due(3, x.runs(0));
        x.delete(1, 2);
        x.deliverUp(1);
        x.deliverDown(0);
        due("abdefxyz", text(x, 0));
        due(2, x.waiting(0));
        due(1, x.runs(0));
    }

    private static void promise23_199RunsOfOneOperationEach() {
        Couplet x = new Couplet();
        for (int i = 0; i < 100; i++) {
            x.type(1, 'a');
            x.erase(1);
        }
        due(199, x.runs(1));
    }

    // Promise 24: up

    private static void promise24_endsAre0And1() {
        Couplet x = typed(1, "ab");
        dueTwoEnds(x, end -> x.up(end));
        due(0, x.up(0));
        due(1, x.up(1));
    }

    private static void promise24_is0WithoutOperations() {
        due(0, new Couplet().up(0));
        due(0, shared("ab").up(0));
        due(0, shared("ab").up(1));
    }

    private static void promise24_isNeverMoreThan1() {
        Couplet x = typed(0, "abc");
        x.insert(0, 0, 'd');
        due(1, x.up(0));
        x.deliverUp(0);
        due(0, x.up(0));
        x.type(0, 'e');
        due(0, x.up(0));
        x.deliverDown(0);
        due(1, x.up(0));
    }

    // Promise 25: down

    private static void promise25_endsAre0And1() {
        Couplet x = typed(0, "a");
        x.deliverUp(0);
        x.deliverDown(1);
        dueTwoEnds(x, end -> x.down(end));
        due(1, x.down(0));
        due(0, x.down(1));
    }

    private static void promise25_is0WithoutMessages() {
        due(0, new Couplet().down(1));
        due(0, typed(0, "a").down(1));
        due(0, shared("a").down(1));
    }

    private static void promise25_acknowledgementsAndOperationsAreCounted() {
        Couplet x = typed(0, "a");
        x.type(1, 'b');
        x.deliverUp(0);
        due(1, x.down(0));
        due(1, x.down(1));
        x.deliverUp(1);
        due(2, x.down(0));
        due(2, x.down(1));
        x.deliverDown(0);
        due(1, x.down(0));
        due(2, x.down(1));
    }

    private static void promise25_messagesPileUp() {
        for (int end = 0; end < 2; end++) {
            Couplet x = new Couplet();
            for (int i = 0; i < 60; i++) {
                x.type(end, 'a');
                x.deliverUp(end);
                x.deliverDown(end);
            }
            due(60, x.down(1 - end));
            due(0, x.down(end));
            x.deliverDown(1 - end);
            due(59, x.down(1 - end));
            due(59, x.deliverAll());
            due(60, x.length(1 - end));
        }
    }

    // Promise 26: kept

    private static void promise26_endsAre0And1() {
        Couplet x = typed(1, "ab");
        dueTwoEnds(x, end -> x.kept(end));
        due(0, x.kept(0));
        due(2, x.kept(1));
    }

    private static void promise26_is0InANewObject() {
        due(0, new Couplet().kept(0));
        due(0, new Couplet().kept(1));
    }

    private static void promise26_eachKindOfWritingIsKept() {
        Couplet x = new Couplet();
        x.insert(0, 0, 'a');
        due(1, x.kept(0));
        x.type(0, 'b');
        due(2, x.kept(0));
        x.delete(0, 0);
        due(3, x.kept(0));
        x.moveCursor(0, 1);
        x.erase(0);
        due(4, x.kept(0));
    }

    private static void promise26_deletionOfACharacterOfTheOtherEndIsKept() {
        Couplet x = shared("ab");
        x.delete(1, 0);
        due(1, x.kept(1));
        due(2, x.kept(0));
        x.deliverAll();
        due(1, x.kept(1));
        due(2, x.kept(0));
    }

    private static void promise26_operationThatBecameNothingIsKept() {
        Couplet x = shared("ab");
        x.delete(0, 0);
        x.delete(1, 0);
        x.deliverAll();
        due(3, x.kept(0));
        due(1, x.kept(1));
    }

    private static void promise26_all200AreKept() {
        Couplet x = new Couplet();
        for (int i = 0; i < 100; i++) {
            x.type(0, 'a');
            x.erase(0);
        }
        due(200, x.kept(0));
        x.deliverAll();
        due(200, x.kept(0));
        due(0, x.kept(1));
    }

    private static void promise26_undoingTakesOneAway() {
        Couplet x = typed(0, "ab");
        x.erase(0);
        x.undo(0);
        due(2, x.kept(0));
        // The character is gone, yet the operation is not kept any more.
        due(false, x.undo(0));
        due(1, x.kept(0));
        x.undo(0);
        due(0, x.kept(0));
    }

    // Promise 27: centreRevision

    private static void promise27_is0InANewObject() {
        due(0, new Couplet().centreRevision());
    }

    private static void promise27_messageUnderWayIsNotCounted() {
        Couplet x = typed(0, "a");
        due(0, x.centreRevision());
        x.deliverUp(0);
        due(1, x.centreRevision());
    }

    private static void promise27_messageOfSeveralOperationsIsCountedOnce() {
        Couplet x = typed(0, "abcd");
        x.deliverAll();
        due(2, x.centreRevision());
    }

    private static void promise27_messageOfNothingIsCounted() {
        Couplet x = shared("a");
        x.delete(0, 0);
        x.delete(1, 0);
        x.deliverAll();
        due(3, x.centreRevision());
    }
}
